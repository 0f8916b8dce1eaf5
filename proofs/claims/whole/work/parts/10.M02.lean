/-! walks, by program -/
abbrev y_M_times : MethodName := ⟨"CanoeSidesModel", "times", "()I"⟩
abbrev rm_M_times : Room := { frames := 0, cells := 0, slots := 0, locals := 0 }
theorem cd_M_times : cwd y_M_times 0 := by decide +kernel
theorem d_M_times_0 : decode prog_13_method_47_code 0 = .ok (.aload_n 0, 1) := by decide +kernel
theorem d_M_times_1 : decode prog_13_method_47_code 1 = .ok (.getfield 20, 3) := by decide +kernel
theorem d_M_times_4 : decode prog_13_method_47_code 4 = .ok (.bipush 10, 2) := by decide +kernel
theorem d_M_times_6 : decode prog_13_method_47_code 6 = .ok (.iaload, 1) := by decide +kernel
theorem d_M_times_7 : decode prog_13_method_47_code 7 = .ok (.ifCond .ge 7, 3) := by decide +kernel
theorem d_M_times_10 : decode prog_13_method_47_code 10 = .ok (.iconst 1, 1) := by decide +kernel
theorem d_M_times_11 : decode prog_13_method_47_code 11 = .ok (.goto 10, 3) := by decide +kernel
theorem d_M_times_14 : decode prog_13_method_47_code 14 = .ok (.aload_n 0, 1) := by decide +kernel
theorem d_M_times_15 : decode prog_13_method_47_code 15 = .ok (.getfield 20, 3) := by decide +kernel
theorem d_M_times_18 : decode prog_13_method_47_code 18 = .ok (.bipush 11, 2) := by decide +kernel
theorem d_M_times_20 : decode prog_13_method_47_code 20 = .ok (.iaload, 1) := by decide +kernel
theorem d_M_times_21 : decode prog_13_method_47_code 21 = .ok (.ireturn, 1) := by decide +kernel
theorem w_M_times {p : Program} {l : Launch} {e : Env} {s : State} {m : MethodId} {args : Array Value} {below : List Frame} {meth : Method} {c : Code} {K : KT} {A : Nat → Prop} (C0 : Cx p s m args meth c prog_13_method_47_code "CanoeSidesModel" 1 K A) (hr : meth.sig.returnType = (Option.some Jvm.ClassFile.FieldType.int)) {ad : Nat → Nat} (h : Hp) {res : Int32} (hE : K_M_times h = some res) : G p l e rm_M_times s m args below meth c K A WM 1 0 0 (QI s args below K A WM 0 0 ad res h) 0 [(0, .ref (ad 100))] [] ad h := by
  unfold K_M_times at hE
  refine g_aload_n C0 0 d_M_times_0 rfl rfl ?_
  refine g_getr C0 CK_11 3 (by decide) t_1093 0 rfl rfl d_M_times_1 ?_
  refine g_bipush C0 (v := 10) d_M_times_4 (by decide) ?_
  obtain ⟨q6, v6, e6, hE⟩ := gA_some hE
  refine g_iald C0 4 rfl q6 d_M_times_6 ?_
  refine g_top e6 ?_
  have hB := ite_some hE
  refine g_if_ge C0 (tgt := 14) d_M_times_7 (by decide) (fun c_ => ?_) (fun c_ => ?_)
  · replace hE := hB.1 c_
    refine g_aload_n C0 0 d_M_times_14 rfl rfl ?_
    refine g_getr C0 CK_11 3 (by decide) t_1093 0 rfl rfl d_M_times_15 ?_
    refine g_bipush C0 (v := 11) d_M_times_18 (by decide) ?_
    obtain ⟨q20, v20, e20, hE⟩ := gA_some hE
    refine g_iald C0 4 rfl q20 d_M_times_20 ?_
    refine g_top e20 ?_
    obtain rfl := Option.some.inj hE
    exact g_iret C0 hr d_M_times_21
  · replace hE := hB.2 c_
    refine g_iconst C0 (v := 1) d_M_times_10 (by decide) ?_
    refine g_goto C0 (tgt := 21) d_M_times_11 (by decide) ?_
    obtain rfl := Option.some.inj hE
    exact g_iret C0 hr d_M_times_21
theorem m_M_times (l : Launch) (K : KT) (ad : Nat → Nat) (h : Hp) {res : Int32} (hE : K_M_times h = some res) : ConI l y_M_times prog_13_method_47_code 1 (Option.some Jvm.ClassFile.FieldType.int) rm_M_times K WM ad h [.ref (ad 100)] res h := fun sz =>
  con_start [(0, .ref (ad 100))] (by decide +kernel) rfl (Nat.le_of_ble_eq_true rfl) (fun p e s m args below meth c C0 hr hnm hsz => w_M_times C0 hr h hE)
abbrev y_M_stateOf : MethodName := ⟨"CanoeSidesModel", "stateOf", "(III)I"⟩
abbrev rm_M_stateOf : Room := { frames := 1, cells := 0, slots := 0, locals := 20 }
theorem cd_M_stateOf : cwd y_M_stateOf 3 := by decide +kernel
theorem d_M_stateOf_0 : decode prog_13_method_48_code 0 = .ok (.iload_n 1, 1) := by decide +kernel
theorem d_M_stateOf_1 : decode prog_13_method_48_code 1 = .ok (.bipush 8, 2) := by decide +kernel
theorem d_M_stateOf_3 : decode prog_13_method_48_code 3 = .ok (.imul, 1) := by decide +kernel
theorem d_M_stateOf_4 : decode prog_13_method_48_code 4 = .ok (.iload_n 2, 1) := by decide +kernel
theorem d_M_stateOf_5 : decode prog_13_method_48_code 5 = .ok (.iadd, 1) := by decide +kernel
theorem d_M_stateOf_6 : decode prog_13_method_48_code 6 = .ok (.aload_n 0, 1) := by decide +kernel
theorem d_M_stateOf_7 : decode prog_13_method_48_code 7 = .ok (.invokevirtual 234, 3) := by decide +kernel
theorem d_M_stateOf_10 : decode prog_13_method_48_code 10 = .ok (.imul, 1) := by decide +kernel
theorem d_M_stateOf_11 : decode prog_13_method_48_code 11 = .ok (.iload_n 3, 1) := by decide +kernel
theorem d_M_stateOf_12 : decode prog_13_method_48_code 12 = .ok (.aload_n 0, 1) := by decide +kernel
theorem d_M_stateOf_13 : decode prog_13_method_48_code 13 = .ok (.invokevirtual 234, 3) := by decide +kernel
theorem d_M_stateOf_16 : decode prog_13_method_48_code 16 = .ok (.irem, 1) := by decide +kernel
theorem d_M_stateOf_17 : decode prog_13_method_48_code 17 = .ok (.iadd, 1) := by decide +kernel
theorem d_M_stateOf_18 : decode prog_13_method_48_code 18 = .ok (.ireturn, 1) := by decide +kernel
theorem w_M_stateOf {p : Program} {l : Launch} {e : Env} {s : State} {m : MethodId} {args : Array Value} {below : List Frame} {meth : Method} {c : Code} {K : KT} {A : Nat → Prop} (C0 : Cx p s m args meth c prog_13_method_48_code "CanoeSidesModel" 4 K A) (hr : meth.sig.returnType = (Option.some Jvm.ClassFile.FieldType.int)) {ad : Nat → Nat} (a0 : Int32) (b0 : Int32) (c0 : Int32) (h : Hp) {res : Int32} (hE : K_M_stateOf a0 b0 c0 h = some res) : G p l e rm_M_stateOf s m args below meth c K A WM 4 0 0 (QI s args below K A WM 0 0 ad res h) 0 [(0, .ref (ad 100)), (1, .int a0), (2, .int b0), (3, .int c0)] [] ad h := by
  unfold K_M_stateOf at hE
  refine g_iload_n C0 1 d_M_stateOf_0 rfl rfl ?_
  refine g_bipush C0 (v := 8) d_M_stateOf_1 (by decide) ?_
  refine g_imul C0 d_M_stateOf_3 ?_
  refine g_iload_n C0 2 d_M_stateOf_4 rfl rfl ?_
  refine g_iadd C0 d_M_stateOf_5 ?_
  refine g_aload_n C0 0 d_M_stateOf_6 rfl rfl ?_
  obtain ⟨v7, z7, hE⟩ := bd_some hE
  refine g_calliP C0 nd_M [100, 101, 102, 103, 104, 105, 106, 107, 108, 109, 110, 111, 112, 113, 114, 115] rfl (sbW_self WM) (runV C0 (m_M_times l K ad h z7) 0 rfl ⟨t_1385, t_1387, t_66, t_97, t_1388⟩ cd_M_times (by decide) 0 rfl rfl (sbW_self WM) nd_M rfl rfl (Nat.le_of_ble_eq_true rfl) d_M_stateOf_7) ?_
  refine g_imul C0 d_M_stateOf_10 ?_
  refine g_iload_n C0 3 d_M_stateOf_11 rfl rfl ?_
  refine g_aload_n C0 0 d_M_stateOf_12 rfl rfl ?_
  obtain ⟨v13, z13, hE⟩ := bd_some hE
  refine g_calliP C0 nd_M [100, 101, 102, 103, 104, 105, 106, 107, 108, 109, 110, 111, 112, 113, 114, 115] rfl (sbW_self WM) (runV C0 (m_M_times l K ad h z13) 0 rfl ⟨t_1385, t_1387, t_66, t_97, t_1388⟩ cd_M_times (by decide) 0 rfl rfl (sbW_self WM) nd_M rfl rfl (Nat.le_of_ble_eq_true rfl) d_M_stateOf_13) ?_
  obtain ⟨q16, hE⟩ := dz_some hE
  refine g_irem C0 d_M_stateOf_16 q16 ?_
  refine g_iadd C0 d_M_stateOf_17 ?_
  obtain rfl := Option.some.inj hE
  exact g_iret C0 hr d_M_stateOf_18
theorem m_M_stateOf (l : Launch) (K : KT) (ad : Nat → Nat) (h : Hp) (a0 : Int32) (b0 : Int32) (c0 : Int32) {res : Int32} (hE : K_M_stateOf a0 b0 c0 h = some res) : ConI l y_M_stateOf prog_13_method_48_code 4 (Option.some Jvm.ClassFile.FieldType.int) rm_M_stateOf K WM ad h [.ref (ad 100), .int a0, .int b0, .int c0] res h := fun sz =>
  con_start [(0, .ref (ad 100)), (1, .int a0), (2, .int b0), (3, .int c0)] (by decide +kernel) rfl (Nat.le_of_ble_eq_true rfl) (fun p e s m args below meth c C0 hr hnm hsz => w_M_stateOf C0 hr a0 b0 c0 h hE)
abbrev y_M_stateNow : MethodName := ⟨"CanoeSidesModel", "stateNow", "()I"⟩
abbrev rm_M_stateNow : Room := { frames := 2, cells := 0, slots := 0, locals := 43 }
theorem cd_M_stateNow : cwd y_M_stateNow 0 := by decide +kernel
theorem d_M_stateNow_0 : decode prog_13_method_49_code 0 = .ok (.aload_n 0, 1) := by decide +kernel
theorem d_M_stateNow_1 : decode prog_13_method_49_code 1 = .ok (.aload_n 0, 1) := by decide +kernel
theorem d_M_stateNow_2 : decode prog_13_method_49_code 2 = .ok (.getfield 7, 3) := by decide +kernel
theorem d_M_stateNow_5 : decode prog_13_method_49_code 5 = .ok (.iconst 0, 1) := by decide +kernel
theorem d_M_stateNow_6 : decode prog_13_method_49_code 6 = .ok (.iaload, 1) := by decide +kernel
theorem d_M_stateNow_7 : decode prog_13_method_49_code 7 = .ok (.aload_n 0, 1) := by decide +kernel
theorem d_M_stateNow_8 : decode prog_13_method_49_code 8 = .ok (.getfield 7, 3) := by decide +kernel
theorem d_M_stateNow_11 : decode prog_13_method_49_code 11 = .ok (.iconst 1, 1) := by decide +kernel
theorem d_M_stateNow_12 : decode prog_13_method_49_code 12 = .ok (.iaload, 1) := by decide +kernel
theorem d_M_stateNow_13 : decode prog_13_method_49_code 13 = .ok (.aload_n 0, 1) := by decide +kernel
theorem d_M_stateNow_14 : decode prog_13_method_49_code 14 = .ok (.getfield 7, 3) := by decide +kernel
theorem d_M_stateNow_17 : decode prog_13_method_49_code 17 = .ok (.iconst 2, 1) := by decide +kernel
theorem d_M_stateNow_18 : decode prog_13_method_49_code 18 = .ok (.iaload, 1) := by decide +kernel
theorem d_M_stateNow_19 : decode prog_13_method_49_code 19 = .ok (.invokevirtual 237, 3) := by decide +kernel
theorem d_M_stateNow_22 : decode prog_13_method_49_code 22 = .ok (.ireturn, 1) := by decide +kernel
theorem w_M_stateNow {p : Program} {l : Launch} {e : Env} {s : State} {m : MethodId} {args : Array Value} {below : List Frame} {meth : Method} {c : Code} {K : KT} {A : Nat → Prop} (C0 : Cx p s m args meth c prog_13_method_49_code "CanoeSidesModel" 1 K A) (hr : meth.sig.returnType = (Option.some Jvm.ClassFile.FieldType.int)) {ad : Nat → Nat} (h : Hp) {res : Int32} (hE : K_M_stateNow h = some res) : G p l e rm_M_stateNow s m args below meth c K A WM 1 0 0 (QI s args below K A WM 0 0 ad res h) 0 [(0, .ref (ad 100))] [] ad h := by
  unfold K_M_stateNow at hE
  refine g_aload_n C0 0 d_M_stateNow_0 rfl rfl ?_
  refine g_aload_n C0 0 d_M_stateNow_1 rfl rfl ?_
  refine g_getr C0 CK_11 0 (by decide) t_1090 0 rfl rfl d_M_stateNow_2 ?_
  refine g_iconst C0 (v := 0) d_M_stateNow_5 (by decide) ?_
  obtain ⟨q6, v6, e6, hE⟩ := gA_some hE
  refine g_iald C0 1 rfl q6 d_M_stateNow_6 ?_
  refine g_top e6 ?_
  refine g_aload_n C0 0 d_M_stateNow_7 rfl rfl ?_
  refine g_getr C0 CK_11 0 (by decide) t_1090 0 rfl rfl d_M_stateNow_8 ?_
  refine g_iconst C0 (v := 1) d_M_stateNow_11 (by decide) ?_
  obtain ⟨q12, v12, e12, hE⟩ := gA_some hE
  refine g_iald C0 1 rfl q12 d_M_stateNow_12 ?_
  refine g_top e12 ?_
  refine g_aload_n C0 0 d_M_stateNow_13 rfl rfl ?_
  refine g_getr C0 CK_11 0 (by decide) t_1090 0 rfl rfl d_M_stateNow_14 ?_
  refine g_iconst C0 (v := 2) d_M_stateNow_17 (by decide) ?_
  obtain ⟨q18, v18, e18, hE⟩ := gA_some hE
  refine g_iald C0 1 rfl q18 d_M_stateNow_18 ?_
  refine g_top e18 ?_
  obtain ⟨v19, z19, hE⟩ := bd_some hE
  refine g_calliP C0 nd_M [100, 101, 102, 103, 104, 105, 106, 107, 108, 109, 110, 111, 112, 113, 114, 115] rfl (sbW_self WM) (runV C0 (m_M_stateOf l K ad h v6 v12 v18 z19) 3 rfl ⟨t_1402, t_1404, t_70, t_97, t_1405⟩ cd_M_stateOf (by decide) 0 rfl rfl (sbW_self WM) nd_M rfl rfl (Nat.le_of_ble_eq_true rfl) d_M_stateNow_19) ?_
  obtain rfl := Option.some.inj hE
  exact g_iret C0 hr d_M_stateNow_22
theorem m_M_stateNow (l : Launch) (K : KT) (ad : Nat → Nat) (h : Hp) {res : Int32} (hE : K_M_stateNow h = some res) : ConI l y_M_stateNow prog_13_method_49_code 1 (Option.some Jvm.ClassFile.FieldType.int) rm_M_stateNow K WM ad h [.ref (ad 100)] res h := fun sz =>
  con_start [(0, .ref (ad 100))] (by decide +kernel) rfl (Nat.le_of_ble_eq_true rfl) (fun p e s m args below meth c C0 hr hnm hsz => w_M_stateNow C0 hr h hE)
abbrev y_M_states : MethodName := ⟨"CanoeSidesModel", "states", "()I"⟩
abbrev rm_M_states : Room := { frames := 1, cells := 0, slots := 0, locals := 21 }
theorem cd_M_states : cwd y_M_states 0 := by decide +kernel
theorem d_M_states_0 : decode prog_13_method_50_code 0 = .ok (.aload_n 0, 1) := by decide +kernel
theorem d_M_states_1 : decode prog_13_method_50_code 1 = .ok (.iconst 0, 1) := by decide +kernel
theorem d_M_states_2 : decode prog_13_method_50_code 2 = .ok (.invokevirtual 131, 3) := by decide +kernel
theorem d_M_states_5 : decode prog_13_method_50_code 5 = .ok (.bipush 8, 2) := by decide +kernel
theorem d_M_states_7 : decode prog_13_method_50_code 7 = .ok (.imul, 1) := by decide +kernel
theorem d_M_states_8 : decode prog_13_method_50_code 8 = .ok (.aload_n 0, 1) := by decide +kernel
theorem d_M_states_9 : decode prog_13_method_50_code 9 = .ok (.invokevirtual 234, 3) := by decide +kernel
theorem d_M_states_12 : decode prog_13_method_50_code 12 = .ok (.imul, 1) := by decide +kernel
theorem d_M_states_13 : decode prog_13_method_50_code 13 = .ok (.ireturn, 1) := by decide +kernel
theorem w_M_states {p : Program} {l : Launch} {e : Env} {s : State} {m : MethodId} {args : Array Value} {below : List Frame} {meth : Method} {c : Code} {K : KT} {A : Nat → Prop} (C0 : Cx p s m args meth c prog_13_method_50_code "CanoeSidesModel" 1 K A) (hr : meth.sig.returnType = (Option.some Jvm.ClassFile.FieldType.int)) {ad : Nat → Nat} (h : Hp) {res : Int32} (hE : K_M_states h = some res) : G p l e rm_M_states s m args below meth c K A WM 1 0 0 (QI s args below K A WM 0 0 ad res h) 0 [(0, .ref (ad 100))] [] ad h := by
  unfold K_M_states at hE
  refine g_aload_n C0 0 d_M_states_0 rfl rfl ?_
  refine g_iconst C0 (v := 0) d_M_states_1 (by decide) ?_
  obtain ⟨v2, z2, hE⟩ := bd_some hE
  refine g_calliP C0 nd_M [100, 101, 102, 103, 104, 105, 106, 107, 108, 109, 110, 111, 112, 113, 114, 115] rfl (sbW_self WM) (runV C0 (m_M_squares l K ad h 0 z2) 1 rfl ⟨t_1248, t_1250, t_49, t_97, t_1251⟩ cd_M_squares (by decide) 0 rfl rfl (sbW_self WM) nd_M rfl rfl (Nat.le_of_ble_eq_true rfl) d_M_states_2) ?_
  refine g_bipush C0 (v := 8) d_M_states_5 (by decide) ?_
  refine g_imul C0 d_M_states_7 ?_
  refine g_aload_n C0 0 d_M_states_8 rfl rfl ?_
  obtain ⟨v9, z9, hE⟩ := bd_some hE
  refine g_calliP C0 nd_M [100, 101, 102, 103, 104, 105, 106, 107, 108, 109, 110, 111, 112, 113, 114, 115] rfl (sbW_self WM) (runV C0 (m_M_times l K ad h z9) 0 rfl ⟨t_1385, t_1387, t_66, t_97, t_1388⟩ cd_M_times (by decide) 0 rfl rfl (sbW_self WM) nd_M rfl rfl (Nat.le_of_ble_eq_true rfl) d_M_states_9) ?_
  refine g_imul C0 d_M_states_12 ?_
  obtain rfl := Option.some.inj hE
  exact g_iret C0 hr d_M_states_13
theorem m_M_states (l : Launch) (K : KT) (ad : Nat → Nat) (h : Hp) {res : Int32} (hE : K_M_states h = some res) : ConI l y_M_states prog_13_method_50_code 1 (Option.some Jvm.ClassFile.FieldType.int) rm_M_states K WM ad h [.ref (ad 100)] res h := fun sz =>
  con_start [(0, .ref (ad 100))] (by decide +kernel) rfl (Nat.le_of_ble_eq_true rfl) (fun p e s m args below meth c C0 hr hnm hsz => w_M_states C0 hr h hE)
abbrev y_M_after : MethodName := ⟨"CanoeSidesModel", "after", "(III)I"⟩
abbrev rm_M_after : Room := { frames := 5, cells := 0, slots := 0, locals := 122 }
theorem cd_M_after : cwd y_M_after 3 := by decide +kernel
theorem d_M_after_0 : decode prog_13_method_51_code 0 = .ok (.iload_n 1, 1) := by decide +kernel
theorem d_M_after_1 : decode prog_13_method_51_code 1 = .ok (.aload_n 0, 1) := by decide +kernel
theorem d_M_after_2 : decode prog_13_method_51_code 2 = .ok (.invokevirtual 234, 3) := by decide +kernel
theorem d_M_after_5 : decode prog_13_method_51_code 5 = .ok (.irem, 1) := by decide +kernel
theorem d_M_after_6 : decode prog_13_method_51_code 6 = .ok (.iconst 1, 1) := by decide +kernel
theorem d_M_after_7 : decode prog_13_method_51_code 7 = .ok (.iadd, 1) := by decide +kernel
theorem d_M_after_8 : decode prog_13_method_51_code 8 = .ok (.istore 4, 2) := by decide +kernel
theorem d_M_after_10 : decode prog_13_method_51_code 10 = .ok (.iload_n 1, 1) := by decide +kernel
theorem d_M_after_11 : decode prog_13_method_51_code 11 = .ok (.aload_n 0, 1) := by decide +kernel
theorem d_M_after_12 : decode prog_13_method_51_code 12 = .ok (.invokevirtual 234, 3) := by decide +kernel
theorem d_M_after_15 : decode prog_13_method_51_code 15 = .ok (.idiv, 1) := by decide +kernel
theorem d_M_after_16 : decode prog_13_method_51_code 16 = .ok (.istore 5, 2) := by decide +kernel
theorem d_M_after_18 : decode prog_13_method_51_code 18 = .ok (.aload_n 0, 1) := by decide +kernel
theorem d_M_after_19 : decode prog_13_method_51_code 19 = .ok (.iload 5, 2) := by decide +kernel
theorem d_M_after_21 : decode prog_13_method_51_code 21 = .ok (.bipush 8, 2) := by decide +kernel
theorem d_M_after_23 : decode prog_13_method_51_code 23 = .ok (.idiv, 1) := by decide +kernel
theorem d_M_after_24 : decode prog_13_method_51_code 24 = .ok (.iload 5, 2) := by decide +kernel
theorem d_M_after_26 : decode prog_13_method_51_code 26 = .ok (.bipush 8, 2) := by decide +kernel
theorem d_M_after_28 : decode prog_13_method_51_code 28 = .ok (.irem, 1) := by decide +kernel
theorem d_M_after_29 : decode prog_13_method_51_code 29 = .ok (.iload_n 2, 1) := by decide +kernel
theorem d_M_after_30 : decode prog_13_method_51_code 30 = .ok (.iload_n 3, 1) := by decide +kernel
theorem d_M_after_31 : decode prog_13_method_51_code 31 = .ok (.invokevirtual 204, 3) := by decide +kernel
theorem d_M_after_34 : decode prog_13_method_51_code 34 = .ok (.aload_n 0, 1) := by decide +kernel
theorem d_M_after_35 : decode prog_13_method_51_code 35 = .ok (.iload 4, 2) := by decide +kernel
theorem d_M_after_37 : decode prog_13_method_51_code 37 = .ok (.invokevirtual 208, 3) := by decide +kernel
theorem d_M_after_40 : decode prog_13_method_51_code 40 = .ok (.aload_n 0, 1) := by decide +kernel
theorem d_M_after_41 : decode prog_13_method_51_code 41 = .ok (.aload_n 0, 1) := by decide +kernel
theorem d_M_after_42 : decode prog_13_method_51_code 42 = .ok (.getfield 195, 3) := by decide +kernel
theorem d_M_after_45 : decode prog_13_method_51_code 45 = .ok (.aload_n 0, 1) := by decide +kernel
theorem d_M_after_46 : decode prog_13_method_51_code 46 = .ok (.getfield 189, 3) := by decide +kernel
theorem d_M_after_49 : decode prog_13_method_51_code 49 = .ok (.iload 4, 2) := by decide +kernel
theorem d_M_after_51 : decode prog_13_method_51_code 51 = .ok (.invokevirtual 237, 3) := by decide +kernel
theorem d_M_after_54 : decode prog_13_method_51_code 54 = .ok (.ireturn, 1) := by decide +kernel
theorem w_M_after {p : Program} {l : Launch} {e : Env} {s : State} {m : MethodId} {args : Array Value} {below : List Frame} {meth : Method} {c : Code} {K : KT} {A : Nat → Prop} (C0 : Cx p s m args meth c prog_13_method_51_code "CanoeSidesModel" 6 K A) (hr : meth.sig.returnType = (Option.some Jvm.ClassFile.FieldType.int)) {ad : Nat → Nat} (N : Nat) (a0 : Int32) (b0 : Int32) (c0 : Int32) (h : Hp) {res : Int32 × Hp} (hE : K_M_after N a0 b0 c0 h = some res) : G p l e rm_M_after s m args below meth c K A WM 6 0 0 (QI s args below K A WM 0 0 ad res.1 res.2) 0 [(0, .ref (ad 100)), (1, .int a0), (2, .int b0), (3, .int c0)] [] ad h := by
  unfold K_M_after at hE
  refine g_iload_n C0 1 d_M_after_0 rfl rfl ?_
  refine g_aload_n C0 0 d_M_after_1 rfl rfl ?_
  obtain ⟨v2, z2, hE⟩ := bd_some hE
  refine g_calliP C0 nd_M [100, 101, 102, 103, 104, 105, 106, 107, 108, 109, 110, 111, 112, 113, 114, 115] rfl (sbW_self WM) (runV C0 (m_M_times l K ad h z2) 0 rfl ⟨t_1385, t_1387, t_66, t_97, t_1388⟩ cd_M_times (by decide) 0 rfl rfl (sbW_self WM) nd_M rfl rfl (Nat.le_of_ble_eq_true rfl) d_M_after_2) ?_
  obtain ⟨q5, hE⟩ := dz_some hE
  refine g_irem C0 d_M_after_5 q5 ?_
  refine g_iconst C0 (v := 1) d_M_after_6 (by decide) ?_
  refine g_iadd C0 d_M_after_7 ?_
  obtain ⟨v8, e8, hE⟩ := nm_some hE
  refine g_top e8 ?_
  refine g_istore C0 [(4, .int v8), (0, .ref (ad 100)), (1, .int a0), (2, .int b0), (3, .int c0)] d_M_after_8 (by decide) rfl ?_
  refine g_iload_n C0 2 d_M_after_10 rfl rfl ?_
  refine g_aload_n C0 1 d_M_after_11 rfl rfl ?_
  obtain ⟨v12, z12, hE⟩ := bd_some hE
  refine g_calliP C0 nd_M [100, 101, 102, 103, 104, 105, 106, 107, 108, 109, 110, 111, 112, 113, 114, 115] rfl (sbW_self WM) (runV C0 (m_M_times l K ad h z12) 0 rfl ⟨t_1385, t_1387, t_66, t_97, t_1388⟩ cd_M_times (by decide) 0 rfl rfl (sbW_self WM) nd_M rfl rfl (Nat.le_of_ble_eq_true rfl) d_M_after_12) ?_
  obtain ⟨q15, hE⟩ := dz_some hE
  refine g_idiv C0 d_M_after_15 q15 ?_
  obtain ⟨v16, e16, hE⟩ := nm_some hE
  refine g_top e16 ?_
  refine g_istore C0 [(5, .int v16), (4, .int v8), (0, .ref (ad 100)), (1, .int a0), (2, .int b0), (3, .int c0)] d_M_after_16 (by decide) rfl ?_
  refine g_aload_n C0 2 d_M_after_18 rfl rfl ?_
  refine g_iload C0 0 d_M_after_19 rfl ?_
  refine g_bipush C0 (v := 8) d_M_after_21 (by decide) ?_
  refine g_idiv C0 d_M_after_23 (by decide) ?_
  refine g_iload C0 0 d_M_after_24 rfl ?_
  refine g_bipush C0 (v := 8) d_M_after_26 (by decide) ?_
  refine g_irem C0 d_M_after_28 (by decide) ?_
  refine g_iload_n C0 4 d_M_after_29 rfl rfl ?_
  refine g_iload_n C0 5 d_M_after_30 rfl rfl ?_
  obtain ⟨h31, z31, hE⟩ := bd_some hE
  refine g_callv C0 nd_M [100, 101, 102, 103, 104, 105, 106, 107, 108, 109, 110, 111, 112, 113, 114, 115] rfl (sbW_self WM) (runV C0 (m_M_strokeFrom l K ad h N (v16 / 8) (rm32 v16 8) b0 c0 z31) 4 rfl ⟨t_1305, t_1307, t_56, t_97, t_1308⟩ cd_M_strokeFrom (by decide) 0 rfl rfl (sbW_self WM) nd_M rfl rfl (Nat.le_of_ble_eq_true rfl) d_M_after_31) ?_
  refine g_mx [100, 101, 102, 103, 104, 105, 106, 107, 108, 109, 110, 111, 112, 113, 114, 115] rfl ?_
  refine g_aload_n C0 2 d_M_after_34 rfl rfl ?_
  refine g_iload C0 1 d_M_after_35 rfl ?_
  obtain ⟨h37, z37, hE⟩ := bd_some hE
  refine g_callv C0 nd_M [100, 101, 102, 103, 104, 105, 106, 107, 108, 109, 110, 111, 112, 113, 114, 115] rfl (sbW_self WM) (runV C0 (m_M_windAt l K ad h31 v8 z37) 1 rfl ⟨t_1339, t_1341, t_61, t_97, t_1342⟩ cd_M_windAt (by decide) 0 rfl rfl (sbW_self WM) nd_M rfl rfl (Nat.le_of_ble_eq_true rfl) d_M_after_37) ?_
  refine g_mx [100, 101, 102, 103, 104, 105, 106, 107, 108, 109, 110, 111, 112, 113, 114, 115] rfl ?_
  refine g_aload_n C0 2 d_M_after_40 rfl rfl ?_
  refine g_aload_n C0 2 d_M_after_41 rfl rfl ?_
  refine g_geti C0 CK_11 13 (by decide) t_1103 0 rfl rfl d_M_after_42 ?_
  refine g_aload_n C0 2 d_M_after_45 rfl rfl ?_
  refine g_geti C0 CK_11 14 (by decide) t_1104 0 rfl rfl d_M_after_46 ?_
  refine g_iload C0 1 d_M_after_49 rfl ?_
  obtain ⟨v51, z51, hE⟩ := bd_some hE
  refine g_calliP C0 nd_M [100, 101, 102, 103, 104, 105, 106, 107, 108, 109, 110, 111, 112, 113, 114, 115] rfl (sbW_self WM) (runV C0 (m_M_stateOf l K ad h37 (h37 100 13) (h37 100 14) v8 z51) 3 rfl ⟨t_1402, t_1404, t_70, t_97, t_1405⟩ cd_M_stateOf (by decide) 0 rfl rfl (sbW_self WM) nd_M rfl rfl (Nat.le_of_ble_eq_true rfl) d_M_after_51) ?_
  obtain rfl := Option.some.inj hE
  exact g_iret C0 hr d_M_after_54
theorem m_M_after (l : Launch) (K : KT) (ad : Nat → Nat) (h : Hp) (N : Nat) (a0 : Int32) (b0 : Int32) (c0 : Int32) {res : Int32 × Hp} (hE : K_M_after N a0 b0 c0 h = some res) : ConI l y_M_after prog_13_method_51_code 6 (Option.some Jvm.ClassFile.FieldType.int) rm_M_after K WM ad h [.ref (ad 100), .int a0, .int b0, .int c0] res.1 res.2 := fun sz =>
  con_start [(0, .ref (ad 100)), (1, .int a0), (2, .int b0), (3, .int c0)] (by decide +kernel) rfl (Nat.le_of_ble_eq_true rfl) (fun p e s m args below meth c C0 hr hnm hsz => w_M_after C0 hr N a0 b0 c0 h hE)
abbrev y_M_isGoalState : MethodName := ⟨"CanoeSidesModel", "isGoalState", "(I)Z"⟩
abbrev rm_M_isGoalState : Room := { frames := 1, cells := 0, slots := 0, locals := 22 }
theorem cd_M_isGoalState : cwd y_M_isGoalState 1 := by decide +kernel
theorem d_M_isGoalState_0 : decode prog_13_method_52_code 0 = .ok (.iload_n 1, 1) := by decide +kernel
theorem d_M_isGoalState_1 : decode prog_13_method_52_code 1 = .ok (.aload_n 0, 1) := by decide +kernel
theorem d_M_isGoalState_2 : decode prog_13_method_52_code 2 = .ok (.invokevirtual 234, 3) := by decide +kernel
theorem d_M_isGoalState_5 : decode prog_13_method_52_code 5 = .ok (.idiv, 1) := by decide +kernel
theorem d_M_isGoalState_6 : decode prog_13_method_52_code 6 = .ok (.istore_n 2, 1) := by decide +kernel
theorem d_M_isGoalState_7 : decode prog_13_method_52_code 7 = .ok (.aload_n 0, 1) := by decide +kernel
theorem d_M_isGoalState_8 : decode prog_13_method_52_code 8 = .ok (.iload_n 2, 1) := by decide +kernel
theorem d_M_isGoalState_9 : decode prog_13_method_52_code 9 = .ok (.bipush 8, 2) := by decide +kernel
theorem d_M_isGoalState_11 : decode prog_13_method_52_code 11 = .ok (.idiv, 1) := by decide +kernel
theorem d_M_isGoalState_12 : decode prog_13_method_52_code 12 = .ok (.iload_n 2, 1) := by decide +kernel
theorem d_M_isGoalState_13 : decode prog_13_method_52_code 13 = .ok (.bipush 8, 2) := by decide +kernel
theorem d_M_isGoalState_15 : decode prog_13_method_52_code 15 = .ok (.irem, 1) := by decide +kernel
theorem d_M_isGoalState_16 : decode prog_13_method_52_code 16 = .ok (.invokevirtual 150, 3) := by decide +kernel
theorem d_M_isGoalState_19 : decode prog_13_method_52_code 19 = .ok (.ireturn, 1) := by decide +kernel
theorem w_M_isGoalState {p : Program} {l : Launch} {e : Env} {s : State} {m : MethodId} {args : Array Value} {below : List Frame} {meth : Method} {c : Code} {K : KT} {A : Nat → Prop} (C0 : Cx p s m args meth c prog_13_method_52_code "CanoeSidesModel" 3 K A) (hr : meth.sig.returnType = (Option.some Jvm.ClassFile.FieldType.boolean)) {ad : Nat → Nat} (a0 : Int32) (h : Hp) {res : Int32} (hE : K_M_isGoalState a0 h = some res) : G p l e rm_M_isGoalState s m args below meth c K A WM 3 0 0 (QI s args below K A WM 0 0 ad res h) 0 [(0, .ref (ad 100)), (1, .int a0)] [] ad h := by
  unfold K_M_isGoalState at hE
  refine g_iload_n C0 1 d_M_isGoalState_0 rfl rfl ?_
  refine g_aload_n C0 0 d_M_isGoalState_1 rfl rfl ?_
  obtain ⟨v2, z2, hE⟩ := bd_some hE
  refine g_calliP C0 nd_M [100, 101, 102, 103, 104, 105, 106, 107, 108, 109, 110, 111, 112, 113, 114, 115] rfl (sbW_self WM) (runV C0 (m_M_times l K ad h z2) 0 rfl ⟨t_1385, t_1387, t_66, t_97, t_1388⟩ cd_M_times (by decide) 0 rfl rfl (sbW_self WM) nd_M rfl rfl (Nat.le_of_ble_eq_true rfl) d_M_isGoalState_2) ?_
  obtain ⟨q5, hE⟩ := dz_some hE
  refine g_idiv C0 d_M_isGoalState_5 q5 ?_
  obtain ⟨v6, e6, hE⟩ := nm_some hE
  refine g_top e6 ?_
  refine g_istore_n C0 [(2, .int v6), (0, .ref (ad 100)), (1, .int a0)] d_M_isGoalState_6 rfl (by decide) rfl ?_
  refine g_aload_n C0 1 d_M_isGoalState_7 rfl rfl ?_
  refine g_iload_n C0 0 d_M_isGoalState_8 rfl rfl ?_
  refine g_bipush C0 (v := 8) d_M_isGoalState_9 (by decide) ?_
  refine g_idiv C0 d_M_isGoalState_11 (by decide) ?_
  refine g_iload_n C0 0 d_M_isGoalState_12 rfl rfl ?_
  refine g_bipush C0 (v := 8) d_M_isGoalState_13 (by decide) ?_
  refine g_irem C0 d_M_isGoalState_15 (by decide) ?_
  obtain ⟨v16, z16, hE⟩ := bd_some hE
  refine g_calliP C0 nd_M [100, 101, 102, 103, 104, 105, 106, 107, 108, 109, 110, 111, 112, 113, 114, 115] rfl (sbW_self WM) (runV C0 (m_M_isGoal l K ad h (v6 / 8) (rm32 v6 8) z16) 2 rfl ⟨t_1268, t_1270, t_52, t_97, t_1271⟩ cd_M_isGoal (by decide) 0 rfl rfl (sbW_self WM) nd_M rfl rfl (Nat.le_of_ble_eq_true rfl) d_M_isGoalState_16) ?_
  obtain ⟨q19, hE⟩ := bz_some hE
  obtain rfl := Option.some.inj hE
  exact g_zret C0 hr q19 d_M_isGoalState_19
theorem m_M_isGoalState (l : Launch) (K : KT) (ad : Nat → Nat) (h : Hp) (a0 : Int32) {res : Int32} (hE : K_M_isGoalState a0 h = some res) : ConI l y_M_isGoalState prog_13_method_52_code 3 (Option.some Jvm.ClassFile.FieldType.boolean) rm_M_isGoalState K WM ad h [.ref (ad 100), .int a0] res h := fun sz =>
  con_start [(0, .ref (ad 100)), (1, .int a0)] (by decide +kernel) rfl (Nat.le_of_ble_eq_true rfl) (fun p e s m args below meth c C0 hr hnm hsz => w_M_isGoalState C0 hr a0 h hE)
abbrev y_M_leastAfter : MethodName := ⟨"CanoeSidesModel", "leastAfter", "(I)I"⟩
abbrev rm_M_leastAfter : Room := { frames := 6, cells := 0, slots := 0, locals := 147 }
theorem cd_M_leastAfter : cwd y_M_leastAfter 1 := by decide +kernel
theorem d_M_leastAfter_0 : decode prog_13_method_53_code 0 = .ok (.ldc 240, 2) := by decide +kernel
theorem d_M_leastAfter_2 : decode prog_13_method_53_code 2 = .ok (.istore_n 2, 1) := by decide +kernel
theorem d_M_leastAfter_3 : decode prog_13_method_53_code 3 = .ok (.iconst 0, 1) := by decide +kernel
theorem d_M_leastAfter_4 : decode prog_13_method_53_code 4 = .ok (.istore_n 3, 1) := by decide +kernel
theorem d_M_leastAfter_5 : decode prog_13_method_53_code 5 = .ok (.iload_n 3, 1) := by decide +kernel
theorem d_M_leastAfter_6 : decode prog_13_method_53_code 6 = .ok (.aload_n 0, 1) := by decide +kernel
theorem d_M_leastAfter_7 : decode prog_13_method_53_code 7 = .ok (.getfield 241, 3) := by decide +kernel
theorem d_M_leastAfter_10 : decode prog_13_method_53_code 10 = .ok (.if_icmp .gt 55, 3) := by decide +kernel
theorem d_M_leastAfter_13 : decode prog_13_method_53_code 13 = .ok (.aload_n 0, 1) := by decide +kernel
theorem d_M_leastAfter_14 : decode prog_13_method_53_code 14 = .ok (.getfield 244, 3) := by decide +kernel
theorem d_M_leastAfter_17 : decode prog_13_method_53_code 17 = .ok (.istore 4, 2) := by decide +kernel
theorem d_M_leastAfter_19 : decode prog_13_method_53_code 19 = .ok (.iload 4, 2) := by decide +kernel
theorem d_M_leastAfter_21 : decode prog_13_method_53_code 21 = .ok (.iconst 4, 1) := by decide +kernel
theorem d_M_leastAfter_22 : decode prog_13_method_53_code 22 = .ok (.if_icmp .ge 37, 3) := by decide +kernel
theorem d_M_leastAfter_25 : decode prog_13_method_53_code 25 = .ok (.aload_n 0, 1) := by decide +kernel
theorem d_M_leastAfter_26 : decode prog_13_method_53_code 26 = .ok (.getfield 36, 3) := by decide +kernel
theorem d_M_leastAfter_29 : decode prog_13_method_53_code 29 = .ok (.aload_n 0, 1) := by decide +kernel
theorem d_M_leastAfter_30 : decode prog_13_method_53_code 30 = .ok (.iload_n 1, 1) := by decide +kernel
theorem d_M_leastAfter_31 : decode prog_13_method_53_code 31 = .ok (.iload_n 3, 1) := by decide +kernel
theorem d_M_leastAfter_32 : decode prog_13_method_53_code 32 = .ok (.iload 4, 2) := by decide +kernel
theorem d_M_leastAfter_34 : decode prog_13_method_53_code 34 = .ok (.invokevirtual 247, 3) := by decide +kernel
theorem d_M_leastAfter_37 : decode prog_13_method_53_code 37 = .ok (.iaload, 1) := by decide +kernel
theorem d_M_leastAfter_38 : decode prog_13_method_53_code 38 = .ok (.istore 5, 2) := by decide +kernel
theorem d_M_leastAfter_40 : decode prog_13_method_53_code 40 = .ok (.iload 5, 2) := by decide +kernel
theorem d_M_leastAfter_42 : decode prog_13_method_53_code 42 = .ok (.iload_n 2, 1) := by decide +kernel
theorem d_M_leastAfter_43 : decode prog_13_method_53_code 43 = .ok (.if_icmp .ge 8, 3) := by decide +kernel
theorem d_M_leastAfter_46 : decode prog_13_method_53_code 46 = .ok (.iload 5, 2) := by decide +kernel
theorem d_M_leastAfter_48 : decode prog_13_method_53_code 48 = .ok (.goto 4, 3) := by decide +kernel
theorem d_M_leastAfter_51 : decode prog_13_method_53_code 51 = .ok (.iload_n 2, 1) := by decide +kernel
theorem d_M_leastAfter_52 : decode prog_13_method_53_code 52 = .ok (.istore_n 2, 1) := by decide +kernel
theorem d_M_leastAfter_53 : decode prog_13_method_53_code 53 = .ok (.iinc 4 1, 3) := by decide +kernel
theorem d_M_leastAfter_56 : decode prog_13_method_53_code 56 = .ok (.goto (-37), 3) := by decide +kernel
theorem d_M_leastAfter_59 : decode prog_13_method_53_code 59 = .ok (.iinc 3 1, 3) := by decide +kernel
theorem d_M_leastAfter_62 : decode prog_13_method_53_code 62 = .ok (.goto (-57), 3) := by decide +kernel
theorem d_M_leastAfter_65 : decode prog_13_method_53_code 65 = .ok (.iload_n 2, 1) := by decide +kernel
theorem d_M_leastAfter_66 : decode prog_13_method_53_code 66 = .ok (.ireturn, 1) := by decide +kernel
theorem w_M_leastAfter_J52 {p : Program} {l : Launch} {e : Env} {s : State} {m : MethodId} {args : Array Value} {below : List Frame} {meth : Method} {c : Code} {K : KT} {A : Nat → Prop} {Q : State → Prop} (C0 : Cx p s m args meth c prog_13_method_53_code "CanoeSidesModel" 6 K A) (hr : meth.sig.returnType = (Option.some Jvm.ClassFile.FieldType.int)) {ad : Nat → Nat} (N : Nat) (x1 : Int32) (x3 : Int32) (x4 : Int32) (y0 : Int32) (h : Hp) {x_ : (Int32 × Int32 × Hp) ⊕ (Int32 × Hp)} (hE : K_M_leastAfter_J52 N x1 x3 x4 y0 h = some x_) (hk1 : ∀ z_, x_ = .inl z_ → G p l e rm_M_leastAfter s m args below meth c K A WM 6 0 0 Q 19 [(0, .ref (ad 100)), (1, .int x1), (2, .int z_.1), (3, .int x3), (4, .int z_.2.1)] [] ad z_.2.2) (hk3 : ∀ z_, x_ = .inr z_ → G p l e rm_M_leastAfter s m args below meth c K A WM 6 0 0 Q 59 [(0, .ref (ad 100)), (1, .int x1), (2, .int z_.1), (3, .int x3)] [] ad z_.2) : G p l e rm_M_leastAfter s m args below meth c K A WM 6 0 0 Q 52 [(0, .ref (ad 100)), (1, .int x1), (3, .int x3), (4, .int x4)] [.int y0] ad h := by
  unfold K_M_leastAfter_J52 at hE
  refine g_istore_n C0 [(2, .int y0), (0, .ref (ad 100)), (1, .int x1), (3, .int x3), (4, .int x4)] d_M_leastAfter_52 rfl (by decide) rfl ?_
  obtain ⟨v53, e53, hE⟩ := nm_some hE
  refine g_iinc C0 4 [(4, .int v53), (2, .int y0), (0, .ref (ad 100)), (1, .int x1), (3, .int x3)] d_M_leastAfter_53 rfl (by rw [e53]; rfl) (by decide) rfl ?_
  refine g_goto C0 (tgt := 19) d_M_leastAfter_56 (by decide) ?_
  refine g_sub [2, 3, 1, 4, 0] (L' := [(0, .ref (ad 100)), (1, .int x1), (2, .int y0), (3, .int x3), (4, .int v53)]) rfl ?_
  exact hk1 _ (Option.some.inj hE).symm
theorem w_M_leastAfter_L19 {p : Program} {l : Launch} {e : Env} {s : State} {m : MethodId} {args : Array Value} {below : List Frame} {meth : Method} {c : Code} {K : KT} {A : Nat → Prop} {Q : State → Prop} (C0 : Cx p s m args meth c prog_13_method_53_code "CanoeSidesModel" 6 K A) (hr : meth.sig.returnType = (Option.some Jvm.ClassFile.FieldType.int)) {ad : Nat → Nat} (N : Nat) (x1 : Int32) (x2 : Int32) (x3 : Int32) (x4 : Int32) (h : Hp) {x_ : (Int32 × Int32 × Hp) ⊕ (Int32 × Hp)} (hE : K_M_leastAfter_L19 N x1 x2 x3 x4 h = some x_) (hk1 : ∀ z_, x_ = .inl z_ → G p l e rm_M_leastAfter s m args below meth c K A WM 6 0 0 Q 19 [(0, .ref (ad 100)), (1, .int x1), (2, .int z_.1), (3, .int x3), (4, .int z_.2.1)] [] ad z_.2.2) (hk3 : ∀ z_, x_ = .inr z_ → G p l e rm_M_leastAfter s m args below meth c K A WM 6 0 0 Q 59 [(0, .ref (ad 100)), (1, .int x1), (2, .int z_.1), (3, .int x3)] [] ad z_.2) : G p l e rm_M_leastAfter s m args below meth c K A WM 6 0 0 Q 19 [(0, .ref (ad 100)), (1, .int x1), (2, .int x2), (3, .int x3), (4, .int x4)] [] ad h := by
  unfold K_M_leastAfter_L19 at hE
  refine g_iload C0 4 d_M_leastAfter_19 rfl ?_
  refine g_iconst C0 (v := 4) d_M_leastAfter_21 (by decide) ?_
  have hB := ite_some hE
  refine g_icmp_ge C0 (tgt := 59) d_M_leastAfter_22 (by decide) (fun c_ => ?_) (fun c_ => ?_)
  · replace hE := hB.1 c_
    refine g_sub [0, 1, 2, 3] (L' := [(0, .ref (ad 100)), (1, .int x1), (2, .int x2), (3, .int x3)]) rfl ?_
    exact hk3 _ (Option.some.inj hE).symm
  · replace hE := hB.2 c_
    refine g_aload_n C0 0 d_M_leastAfter_25 rfl rfl ?_
    refine g_getr C0 CK_11 17 (by decide) t_1107 0 rfl rfl d_M_leastAfter_26 ?_
    refine g_aload_n C0 0 d_M_leastAfter_29 rfl rfl ?_
    refine g_iload_n C0 1 d_M_leastAfter_30 rfl rfl ?_
    refine g_iload_n C0 3 d_M_leastAfter_31 rfl rfl ?_
    refine g_iload C0 4 d_M_leastAfter_32 rfl ?_
    obtain ⟨v34, h34, z34, hE⟩ := bd2_some hE
    refine g_calli C0 nd_M [100, 101, 102, 103, 104, 105, 106, 107, 108, 109, 110, 111, 112, 113, 114, 115] rfl (sbW_self WM) (runV C0 (m_M_after l K ad h N x1 x3 x4 z34) 3 rfl ⟨t_1398, t_1400, t_69, t_97, t_1401⟩ cd_M_after (by decide) 0 rfl rfl (sbW_self WM) nd_M rfl rfl (Nat.le_of_ble_eq_true rfl) d_M_leastAfter_34) ?_
    refine g_mx [100, 101, 102, 103, 104, 105, 106, 107, 108, 109, 110, 111, 112, 113, 114, 115] rfl ?_
    obtain ⟨q37, v37, e37, hE⟩ := gA_some hE
    refine g_iald C0 8 rfl q37 d_M_leastAfter_37 ?_
    refine g_top e37 ?_
    refine g_istore C0 [(5, .int v37), (0, .ref (ad 100)), (1, .int x1), (2, .int x2), (3, .int x3), (4, .int x4)] d_M_leastAfter_38 (by decide) rfl ?_
    refine g_iload C0 0 d_M_leastAfter_40 rfl ?_
    refine g_iload_n C0 3 d_M_leastAfter_42 rfl rfl ?_
    have hB := ite_some hE
    refine g_icmp_ge C0 (tgt := 51) d_M_leastAfter_43 (by decide) (fun c_ => ?_) (fun c_ => ?_)
    · replace hE := hB.1 c_
      refine g_iload_n C0 3 d_M_leastAfter_51 rfl rfl ?_
      refine g_sub [1, 2, 4, 5] (L' := [(0, .ref (ad 100)), (1, .int x1), (3, .int x3), (4, .int x4)]) rfl ?_
      exact w_M_leastAfter_J52 C0 hr N x1 x3 x4 x2 h34 hE hk1 hk3
    · replace hE := hB.2 c_
      refine g_iload C0 0 d_M_leastAfter_46 rfl ?_
      refine g_goto C0 (tgt := 52) d_M_leastAfter_48 (by decide) ?_
      refine g_sub [1, 2, 4, 5] (L' := [(0, .ref (ad 100)), (1, .int x1), (3, .int x3), (4, .int x4)]) rfl ?_
      exact w_M_leastAfter_J52 C0 hr N x1 x3 x4 v37 h34 hE hk1 hk3
theorem w_M_leastAfter_L5 {p : Program} {l : Launch} {e : Env} {s : State} {m : MethodId} {args : Array Value} {below : List Frame} {meth : Method} {c : Code} {K : KT} {A : Nat → Prop} {Q : State → Prop} (C0 : Cx p s m args meth c prog_13_method_53_code "CanoeSidesModel" 6 K A) (hr : meth.sig.returnType = (Option.some Jvm.ClassFile.FieldType.int)) {ad : Nat → Nat} (N : Nat) (x1 : Int32) (x2 : Int32) (x3 : Int32) (h : Hp) {x_ : (Int32 × Int32 × Hp) ⊕ (Int32 × Hp)} (hE : K_M_leastAfter_L5 N x1 x2 x3 h = some x_) (hk1 : ∀ z_, x_ = .inl z_ → G p l e rm_M_leastAfter s m args below meth c K A WM 6 0 0 Q 5 [(0, .ref (ad 100)), (1, .int x1), (2, .int z_.1), (3, .int z_.2.1)] [] ad z_.2.2) (hk3 : ∀ z_, x_ = .inr z_ → G p l e rm_M_leastAfter s m args below meth c K A WM 6 0 0 Q 65 [(2, .int z_.1)] [] ad z_.2) : G p l e rm_M_leastAfter s m args below meth c K A WM 6 0 0 Q 5 [(0, .ref (ad 100)), (1, .int x1), (2, .int x2), (3, .int x3)] [] ad h := by
  unfold K_M_leastAfter_L5 at hE
  refine g_iload_n C0 3 d_M_leastAfter_5 rfl rfl ?_
  refine g_aload_n C0 0 d_M_leastAfter_6 rfl rfl ?_
  refine g_geti C0 CK_11 18 (by decide) t_1108 0 rfl rfl d_M_leastAfter_7 ?_
  have hB := ite_some hE
  refine g_icmp_gt C0 (tgt := 65) d_M_leastAfter_10 (by decide) (fun c_ => ?_) (fun c_ => ?_)
  · replace hE := hB.1 c_
    refine g_sub [2] (L' := [(2, .int x2)]) rfl ?_
    exact hk3 _ (Option.some.inj hE).symm
  · replace hE := hB.2 c_
    refine g_aload_n C0 0 d_M_leastAfter_13 rfl rfl ?_
    refine g_geti C0 CK_11 19 (by decide) t_1109 0 rfl rfl d_M_leastAfter_14 ?_
    obtain ⟨v17, e17, hE⟩ := nm_some hE
    refine g_top e17 ?_
    refine g_istore C0 [(4, .int v17), (0, .ref (ad 100)), (1, .int x1), (2, .int x2), (3, .int x3)] d_M_leastAfter_17 (by decide) rfl ?_
    refine g_sub [1, 2, 3, 4, 0] (L' := [(0, .ref (ad 100)), (1, .int x1), (2, .int x2), (3, .int x3), (4, .int v17)]) rfl ?_
    obtain ⟨t19, z19, hE⟩ := bd_some hE
    refine loopG (fun z_ : Int32 × Int32 × Hp => K_M_leastAfter_L19 N x1 z_.1 x3 z_.2.1 z_.2.2) (fun z_ : Int32 × Int32 × Hp => G p l e rm_M_leastAfter s m args below meth c K A WM 6 0 0 _ 19 [(0, .ref (ad 100)), (1, .int x1), (2, .int z_.1), (3, .int x3), (4, .int z_.2.1)] [] ad z_.2.2) (fun z_ : Int32 × Hp => G p l e rm_M_leastAfter s m args below meth c K A WM 6 0 0 _ 59 [(0, .ref (ad 100)), (1, .int x1), (2, .int z_.1), (3, .int x3)] [] ad z_.2) (fun z_ x_ hz k1 k2 => w_M_leastAfter_L19 C0 hr N x1 z_.1 x3 z_.2.1 z_.2.2 hz k1 k2) _ _ _ z19 ?_
    try dsimp only
    obtain ⟨v59, e59, hE⟩ := nm_some hE
    refine g_iinc C0 3 [(3, .int v59), (0, .ref (ad 100)), (1, .int x1), (2, .int t19.1)] d_M_leastAfter_59 rfl (by rw [e59]; rfl) (by decide) rfl ?_
    refine g_goto C0 (tgt := 5) d_M_leastAfter_62 (by decide) ?_
    refine g_sub [1, 2, 3, 0] (L' := [(0, .ref (ad 100)), (1, .int x1), (2, .int t19.1), (3, .int v59)]) rfl ?_
    exact hk1 _ (Option.some.inj hE).symm
theorem w_M_leastAfter {p : Program} {l : Launch} {e : Env} {s : State} {m : MethodId} {args : Array Value} {below : List Frame} {meth : Method} {c : Code} {K : KT} {A : Nat → Prop} (C0 : Cx p s m args meth c prog_13_method_53_code "CanoeSidesModel" 6 K A) (hr : meth.sig.returnType = (Option.some Jvm.ClassFile.FieldType.int)) {ad : Nat → Nat} (N : Nat) (a0 : Int32) (h : Hp) {res : Int32 × Hp} (hE : K_M_leastAfter N a0 h = some res) : G p l e rm_M_leastAfter s m args below meth c K A WM 6 0 0 (QI s args below K A WM 0 0 ad res.1 res.2) 0 [(0, .ref (ad 100)), (1, .int a0)] [] ad h := by
  unfold K_M_leastAfter at hE
  refine g_ldc C0 (v := 99999999) t_1393 d_M_leastAfter_0 ?_
  refine g_istore_n C0 [(2, .int 99999999), (0, .ref (ad 100)), (1, .int a0)] d_M_leastAfter_2 rfl (by decide) rfl ?_
  refine g_iconst C0 (v := 0) d_M_leastAfter_3 (by decide) ?_
  refine g_istore_n C0 [(3, .int 0), (2, .int 99999999), (0, .ref (ad 100)), (1, .int a0)] d_M_leastAfter_4 rfl (by decide) rfl ?_
  refine g_sub [2, 3, 1, 0] (L' := [(0, .ref (ad 100)), (1, .int a0), (2, .int 99999999), (3, .int 0)]) rfl ?_
  obtain ⟨t5, z5, hE⟩ := bd_some hE
  refine loopG (fun z_ : Int32 × Int32 × Hp => K_M_leastAfter_L5 N a0 z_.1 z_.2.1 z_.2.2) (fun z_ : Int32 × Int32 × Hp => G p l e rm_M_leastAfter s m args below meth c K A WM 6 0 0 _ 5 [(0, .ref (ad 100)), (1, .int a0), (2, .int z_.1), (3, .int z_.2.1)] [] ad z_.2.2) (fun z_ : Int32 × Hp => G p l e rm_M_leastAfter s m args below meth c K A WM 6 0 0 _ 65 [(2, .int z_.1)] [] ad z_.2) (fun z_ x_ hz k1 k2 => w_M_leastAfter_L5 C0 hr N a0 z_.1 z_.2.1 z_.2.2 hz k1 k2) _ _ _ z5 ?_
  try dsimp only
  refine g_iload_n C0 0 d_M_leastAfter_65 rfl rfl ?_
  obtain rfl := Option.some.inj hE
  exact g_iret C0 hr d_M_leastAfter_66
theorem m_M_leastAfter (l : Launch) (K : KT) (ad : Nat → Nat) (h : Hp) (N : Nat) (a0 : Int32) {res : Int32 × Hp} (hE : K_M_leastAfter N a0 h = some res) : ConI l y_M_leastAfter prog_13_method_53_code 6 (Option.some Jvm.ClassFile.FieldType.int) rm_M_leastAfter K WM ad h [.ref (ad 100), .int a0] res.1 res.2 := fun sz =>
  con_start [(0, .ref (ad 100)), (1, .int a0)] (by decide +kernel) rfl (Nat.le_of_ble_eq_true rfl) (fun p e s m args below meth c C0 hr hnm hsz => w_M_leastAfter C0 hr N a0 h hE)
abbrev y_M_findFar : MethodName := ⟨"CanoeSidesModel", "findFar", "()V"⟩
abbrev rm_M_findFar : Room := { frames := 7, cells := 0, slots := 0, locals := 172 }
theorem cd_M_findFar : cwd y_M_findFar 0 := by decide +kernel
theorem d_M_findFar_0 : decode prog_13_method_54_code 0 = .ok (.iconst 0, 1) := by decide +kernel
theorem d_M_findFar_1 : decode prog_13_method_54_code 1 = .ok (.istore_n 1, 1) := by decide +kernel
theorem d_M_findFar_2 : decode prog_13_method_54_code 2 = .ok (.iload_n 1, 1) := by decide +kernel
theorem d_M_findFar_3 : decode prog_13_method_54_code 3 = .ok (.aload_n 0, 1) := by decide +kernel
theorem d_M_findFar_4 : decode prog_13_method_54_code 4 = .ok (.invokevirtual 250, 3) := by decide +kernel
theorem d_M_findFar_7 : decode prog_13_method_54_code 7 = .ok (.if_icmp .ge 29, 3) := by decide +kernel
theorem d_M_findFar_10 : decode prog_13_method_54_code 10 = .ok (.aload_n 0, 1) := by decide +kernel
theorem d_M_findFar_11 : decode prog_13_method_54_code 11 = .ok (.getfield 36, 3) := by decide +kernel
theorem d_M_findFar_14 : decode prog_13_method_54_code 14 = .ok (.iload_n 1, 1) := by decide +kernel
theorem d_M_findFar_15 : decode prog_13_method_54_code 15 = .ok (.aload_n 0, 1) := by decide +kernel
theorem d_M_findFar_16 : decode prog_13_method_54_code 16 = .ok (.iload_n 1, 1) := by decide +kernel
theorem d_M_findFar_17 : decode prog_13_method_54_code 17 = .ok (.invokevirtual 253, 3) := by decide +kernel
theorem d_M_findFar_20 : decode prog_13_method_54_code 20 = .ok (.ifCond .eq 7, 3) := by decide +kernel
theorem d_M_findFar_23 : decode prog_13_method_54_code 23 = .ok (.iconst 0, 1) := by decide +kernel
theorem d_M_findFar_24 : decode prog_13_method_54_code 24 = .ok (.goto 5, 3) := by decide +kernel
theorem d_M_findFar_27 : decode prog_13_method_54_code 27 = .ok (.ldc 240, 2) := by decide +kernel
theorem d_M_findFar_29 : decode prog_13_method_54_code 29 = .ok (.iastore, 1) := by decide +kernel
theorem d_M_findFar_30 : decode prog_13_method_54_code 30 = .ok (.iinc 1 1, 3) := by decide +kernel
theorem d_M_findFar_33 : decode prog_13_method_54_code 33 = .ok (.goto (-31), 3) := by decide +kernel
theorem d_M_findFar_36 : decode prog_13_method_54_code 36 = .ok (.iconst 1, 1) := by decide +kernel
theorem d_M_findFar_37 : decode prog_13_method_54_code 37 = .ok (.istore_n 1, 1) := by decide +kernel
theorem d_M_findFar_38 : decode prog_13_method_54_code 38 = .ok (.iconst 1, 1) := by decide +kernel
theorem d_M_findFar_39 : decode prog_13_method_54_code 39 = .ok (.istore_n 2, 1) := by decide +kernel
theorem d_M_findFar_40 : decode prog_13_method_54_code 40 = .ok (.iload_n 2, 1) := by decide +kernel
theorem d_M_findFar_41 : decode prog_13_method_54_code 41 = .ok (.bipush 60, 2) := by decide +kernel
theorem d_M_findFar_43 : decode prog_13_method_54_code 43 = .ok (.if_icmp .gt 92, 3) := by decide +kernel
theorem d_M_findFar_46 : decode prog_13_method_54_code 46 = .ok (.iload_n 1, 1) := by decide +kernel
theorem d_M_findFar_47 : decode prog_13_method_54_code 47 = .ok (.ifCond .eq 88, 3) := by decide +kernel
theorem d_M_findFar_50 : decode prog_13_method_54_code 50 = .ok (.iconst 0, 1) := by decide +kernel
theorem d_M_findFar_51 : decode prog_13_method_54_code 51 = .ok (.istore_n 1, 1) := by decide +kernel
theorem d_M_findFar_52 : decode prog_13_method_54_code 52 = .ok (.iconst 0, 1) := by decide +kernel
theorem d_M_findFar_53 : decode prog_13_method_54_code 53 = .ok (.istore_n 3, 1) := by decide +kernel
theorem d_M_findFar_54 : decode prog_13_method_54_code 54 = .ok (.iload_n 3, 1) := by decide +kernel
theorem d_M_findFar_55 : decode prog_13_method_54_code 55 = .ok (.aload_n 0, 1) := by decide +kernel
theorem d_M_findFar_56 : decode prog_13_method_54_code 56 = .ok (.invokevirtual 250, 3) := by decide +kernel
theorem d_M_findFar_59 : decode prog_13_method_54_code 59 = .ok (.if_icmp .ge 70, 3) := by decide +kernel
theorem d_M_findFar_62 : decode prog_13_method_54_code 62 = .ok (.aload_n 0, 1) := by decide +kernel
theorem d_M_findFar_63 : decode prog_13_method_54_code 63 = .ok (.getfield 36, 3) := by decide +kernel
theorem d_M_findFar_66 : decode prog_13_method_54_code 66 = .ok (.iload_n 3, 1) := by decide +kernel
theorem d_M_findFar_67 : decode prog_13_method_54_code 67 = .ok (.iaload, 1) := by decide +kernel
theorem d_M_findFar_68 : decode prog_13_method_54_code 68 = .ok (.ldc 240, 2) := by decide +kernel
theorem d_M_findFar_70 : decode prog_13_method_54_code 70 = .ok (.if_icmp .ne 25, 3) := by decide +kernel
theorem d_M_findFar_73 : decode prog_13_method_54_code 73 = .ok (.aload_n 0, 1) := by decide +kernel
theorem d_M_findFar_74 : decode prog_13_method_54_code 74 = .ok (.getfield 17, 3) := by decide +kernel
theorem d_M_findFar_77 : decode prog_13_method_54_code 77 = .ok (.iload_n 3, 1) := by decide +kernel
theorem d_M_findFar_78 : decode prog_13_method_54_code 78 = .ok (.aload_n 0, 1) := by decide +kernel
theorem d_M_findFar_79 : decode prog_13_method_54_code 79 = .ok (.invokevirtual 234, 3) := by decide +kernel
theorem d_M_findFar_82 : decode prog_13_method_54_code 82 = .ok (.idiv, 1) := by decide +kernel
theorem d_M_findFar_83 : decode prog_13_method_54_code 83 = .ok (.bipush 8, 2) := by decide +kernel
theorem d_M_findFar_85 : decode prog_13_method_54_code 85 = .ok (.idiv, 1) := by decide +kernel
theorem d_M_findFar_86 : decode prog_13_method_54_code 86 = .ok (.iaload, 1) := by decide +kernel
theorem d_M_findFar_87 : decode prog_13_method_54_code 87 = .ok (.iconst 1, 1) := by decide +kernel
theorem d_M_findFar_88 : decode prog_13_method_54_code 88 = .ok (.if_icmp .eq 7, 3) := by decide +kernel
theorem d_M_findFar_91 : decode prog_13_method_54_code 91 = .ok (.iconst 1, 1) := by decide +kernel
theorem d_M_findFar_92 : decode prog_13_method_54_code 92 = .ok (.goto 4, 3) := by decide +kernel
theorem d_M_findFar_95 : decode prog_13_method_54_code 95 = .ok (.iconst 0, 1) := by decide +kernel
theorem d_M_findFar_96 : decode prog_13_method_54_code 96 = .ok (.istore 4, 2) := by decide +kernel
theorem d_M_findFar_98 : decode prog_13_method_54_code 98 = .ok (.iload 4, 2) := by decide +kernel
theorem d_M_findFar_100 : decode prog_13_method_54_code 100 = .ok (.ifCond .eq 23, 3) := by decide +kernel
theorem d_M_findFar_103 : decode prog_13_method_54_code 103 = .ok (.aload_n 0, 1) := by decide +kernel
theorem d_M_findFar_104 : decode prog_13_method_54_code 104 = .ok (.iload_n 3, 1) := by decide +kernel
theorem d_M_findFar_105 : decode prog_13_method_54_code 105 = .ok (.invokevirtual 256, 3) := by decide +kernel
theorem d_M_findFar_108 : decode prog_13_method_54_code 108 = .ok (.iload_n 2, 1) := by decide +kernel
theorem d_M_findFar_109 : decode prog_13_method_54_code 109 = .ok (.iconst 1, 1) := by decide +kernel
theorem d_M_findFar_110 : decode prog_13_method_54_code 110 = .ok (.isub, 1) := by decide +kernel
theorem d_M_findFar_111 : decode prog_13_method_54_code 111 = .ok (.if_icmp .ne 12, 3) := by decide +kernel
theorem d_M_findFar_114 : decode prog_13_method_54_code 114 = .ok (.aload_n 0, 1) := by decide +kernel
theorem d_M_findFar_115 : decode prog_13_method_54_code 115 = .ok (.getfield 36, 3) := by decide +kernel
theorem d_M_findFar_118 : decode prog_13_method_54_code 118 = .ok (.iload_n 3, 1) := by decide +kernel
theorem d_M_findFar_119 : decode prog_13_method_54_code 119 = .ok (.iload_n 2, 1) := by decide +kernel
theorem d_M_findFar_120 : decode prog_13_method_54_code 120 = .ok (.iastore, 1) := by decide +kernel
theorem d_M_findFar_121 : decode prog_13_method_54_code 121 = .ok (.iconst 1, 1) := by decide +kernel
theorem d_M_findFar_122 : decode prog_13_method_54_code 122 = .ok (.istore_n 1, 1) := by decide +kernel
theorem d_M_findFar_123 : decode prog_13_method_54_code 123 = .ok (.iinc 3 1, 3) := by decide +kernel
theorem d_M_findFar_126 : decode prog_13_method_54_code 126 = .ok (.goto (-72), 3) := by decide +kernel
theorem d_M_findFar_129 : decode prog_13_method_54_code 129 = .ok (.iinc 2 1, 3) := by decide +kernel
theorem d_M_findFar_132 : decode prog_13_method_54_code 132 = .ok (.goto (-92), 3) := by decide +kernel
theorem d_M_findFar_135 : decode prog_13_method_54_code 135 = .ok (.return_, 1) := by decide +kernel
theorem w_M_findFar_J29 {p : Program} {l : Launch} {e : Env} {s : State} {m : MethodId} {args : Array Value} {below : List Frame} {meth : Method} {c : Code} {K : KT} {A : Nat → Prop} {Q : State → Prop} (C0 : Cx p s m args meth c prog_13_method_54_code "CanoeSidesModel" 5 K A) (hr : meth.sig.returnType = (Option.none : Option Jvm.ClassFile.FieldType)) {ad : Nat → Nat} (N : Nat) (x1 : Int32) (y1 : Int32) (y2 : Int32) (h : Hp) {x_ : (Int32 × Hp) ⊕ (Hp)} (hE : K_M_findFar_J29 N x1 y1 y2 h = some x_) (hk1 : ∀ z_, x_ = .inl z_ → G p l e rm_M_findFar s m args below meth c K A WM 5 0 0 Q 2 [(0, .ref (ad 100)), (1, .int z_.1)] [] ad z_.2) (hk3 : ∀ z_, x_ = .inr z_ → G p l e rm_M_findFar s m args below meth c K A WM 5 0 0 Q 36 [(0, .ref (ad 100))] [] ad z_) : G p l e rm_M_findFar s m args below meth c K A WM 5 0 0 Q 29 [(0, .ref (ad 100)), (1, .int x1)] [.int y2, .int y1, .ref (ad 108)] ad h := by
  unfold K_M_findFar_J29 at hE
  obtain ⟨q29, hE⟩ := sA_some hE
  obtain ⟨h29, e29, hE⟩ := nm_some hE
  refine g_iast C0 8 rfl nd_M q29 d_M_findFar_29 ?_
  refine g_heap e29 ?_
  obtain ⟨v30, e30, hE⟩ := nm_some hE
  refine g_iinc C0 1 [(1, .int v30), (0, .ref (ad 100))] d_M_findFar_30 rfl (by rw [e30]; rfl) (by decide) rfl ?_
  refine g_goto C0 (tgt := 2) d_M_findFar_33 (by decide) ?_
  refine g_sub [1, 0] (L' := [(0, .ref (ad 100)), (1, .int v30)]) rfl ?_
  exact hk1 _ (Option.some.inj hE).symm
theorem w_M_findFar_L2 {p : Program} {l : Launch} {e : Env} {s : State} {m : MethodId} {args : Array Value} {below : List Frame} {meth : Method} {c : Code} {K : KT} {A : Nat → Prop} {Q : State → Prop} (C0 : Cx p s m args meth c prog_13_method_54_code "CanoeSidesModel" 5 K A) (hr : meth.sig.returnType = (Option.none : Option Jvm.ClassFile.FieldType)) {ad : Nat → Nat} (N : Nat) (x1 : Int32) (h : Hp) {x_ : (Int32 × Hp) ⊕ (Hp)} (hE : K_M_findFar_L2 N x1 h = some x_) (hk1 : ∀ z_, x_ = .inl z_ → G p l e rm_M_findFar s m args below meth c K A WM 5 0 0 Q 2 [(0, .ref (ad 100)), (1, .int z_.1)] [] ad z_.2) (hk3 : ∀ z_, x_ = .inr z_ → G p l e rm_M_findFar s m args below meth c K A WM 5 0 0 Q 36 [(0, .ref (ad 100))] [] ad z_) : G p l e rm_M_findFar s m args below meth c K A WM 5 0 0 Q 2 [(0, .ref (ad 100)), (1, .int x1)] [] ad h := by
  unfold K_M_findFar_L2 at hE
  refine g_iload_n C0 1 d_M_findFar_2 rfl rfl ?_
  refine g_aload_n C0 0 d_M_findFar_3 rfl rfl ?_
  obtain ⟨v4, z4, hE⟩ := bd_some hE
  refine g_calliP C0 nd_M [100, 101, 102, 103, 104, 105, 106, 107, 108, 109, 110, 111, 112, 113, 114, 115] rfl (sbW_self WM) (runV C0 (m_M_states l K ad h z4) 0 rfl ⟨t_1381, t_1383, t_65, t_97, t_1384⟩ cd_M_states (by decide) 0 rfl rfl (sbW_self WM) nd_M rfl rfl (Nat.le_of_ble_eq_true rfl) d_M_findFar_4) ?_
  have hB := ite_some hE
  refine g_icmp_ge C0 (tgt := 36) d_M_findFar_7 (by decide) (fun c_ => ?_) (fun c_ => ?_)
  · replace hE := hB.1 c_
    refine g_sub [0] (L' := [(0, .ref (ad 100))]) rfl ?_
    exact hk3 _ (Option.some.inj hE).symm
  · replace hE := hB.2 c_
    refine g_aload_n C0 0 d_M_findFar_10 rfl rfl ?_
    refine g_getr C0 CK_11 17 (by decide) t_1107 0 rfl rfl d_M_findFar_11 ?_
    refine g_iload_n C0 1 d_M_findFar_14 rfl rfl ?_
    refine g_aload_n C0 0 d_M_findFar_15 rfl rfl ?_
    refine g_iload_n C0 1 d_M_findFar_16 rfl rfl ?_
    obtain ⟨v17, z17, hE⟩ := bd_some hE
    refine g_calliP C0 nd_M [100, 101, 102, 103, 104, 105, 106, 107, 108, 109, 110, 111, 112, 113, 114, 115] rfl (sbW_self WM) (runV C0 (m_M_isGoalState l K ad h x1 z17) 1 rfl ⟨t_1389, t_1391, t_67, t_97, t_1392⟩ cd_M_isGoalState (by decide) 0 rfl rfl (sbW_self WM) nd_M rfl rfl (Nat.le_of_ble_eq_true rfl) d_M_findFar_17) ?_
    have hB := ite_some hE
    refine g_if_eq C0 (tgt := 27) d_M_findFar_20 (by decide) (fun c_ => ?_) (fun c_ => ?_)
    · replace hE := hB.1 c_
      refine g_ldc C0 (v := 99999999) t_1393 d_M_findFar_27 ?_
      exact w_M_findFar_J29 C0 hr N x1 x1 99999999 h hE hk1 hk3
    · replace hE := hB.2 c_
      refine g_iconst C0 (v := 0) d_M_findFar_23 (by decide) ?_
      refine g_goto C0 (tgt := 29) d_M_findFar_24 (by decide) ?_
      exact w_M_findFar_J29 C0 hr N x1 x1 0 h hE hk1 hk3
theorem w_M_findFar_J96 {p : Program} {l : Launch} {e : Env} {s : State} {m : MethodId} {args : Array Value} {below : List Frame} {meth : Method} {c : Code} {K : KT} {A : Nat → Prop} {Q : State → Prop} (C0 : Cx p s m args meth c prog_13_method_54_code "CanoeSidesModel" 5 K A) (hr : meth.sig.returnType = (Option.none : Option Jvm.ClassFile.FieldType)) {ad : Nat → Nat} (N : Nat) (x1 : Int32) (x2 : Int32) (x3 : Int32) (y0 : Int32) (h : Hp) {x_ : (Int32 × Int32 × Hp) ⊕ (Int32 × Hp)} (hE : K_M_findFar_J96 N x1 x2 x3 y0 h = some x_) (hk1 : ∀ z_, x_ = .inl z_ → G p l e rm_M_findFar s m args below meth c K A WM 5 0 0 Q 54 [(0, .ref (ad 100)), (1, .int z_.1), (2, .int x2), (3, .int z_.2.1)] [] ad z_.2.2) (hk3 : ∀ z_, x_ = .inr z_ → G p l e rm_M_findFar s m args below meth c K A WM 5 0 0 Q 129 [(0, .ref (ad 100)), (1, .int z_.1), (2, .int x2)] [] ad z_.2) : G p l e rm_M_findFar s m args below meth c K A WM 5 0 0 Q 96 [(0, .ref (ad 100)), (1, .int x1), (2, .int x2), (3, .int x3)] [.int y0] ad h := by
  unfold K_M_findFar_J96 at hE
  refine g_istore C0 [(4, .int y0), (0, .ref (ad 100)), (1, .int x1), (2, .int x2), (3, .int x3)] d_M_findFar_96 (by decide) rfl ?_
  refine g_iload C0 0 d_M_findFar_98 rfl ?_
  have hB := ite_some hE
  refine g_if_eq C0 (tgt := 123) d_M_findFar_100 (by decide) (fun c_ => ?_) (fun c_ => ?_)
  · replace hE := hB.1 c_
    obtain ⟨v123, e123, hE⟩ := nm_some hE
    refine g_iinc C0 4 [(3, .int v123), (4, .int y0), (0, .ref (ad 100)), (1, .int x1), (2, .int x2)] d_M_findFar_123 rfl (by rw [e123]; rfl) (by decide) rfl ?_
    refine g_goto C0 (tgt := 54) d_M_findFar_126 (by decide) ?_
    refine g_sub [2, 3, 4, 0] (L' := [(0, .ref (ad 100)), (1, .int x1), (2, .int x2), (3, .int v123)]) rfl ?_
    exact hk1 _ (Option.some.inj hE).symm
  · replace hE := hB.2 c_
    refine g_aload_n C0 1 d_M_findFar_103 rfl rfl ?_
    refine g_iload_n C0 4 d_M_findFar_104 rfl rfl ?_
    obtain ⟨v105, h105, z105, hE⟩ := bd2_some hE
    refine g_calli C0 nd_M [100, 101, 102, 103, 104, 105, 106, 107, 108, 109, 110, 111, 112, 113, 114, 115] rfl (sbW_self WM) (runV C0 (m_M_leastAfter l K ad h N x3 z105) 1 rfl ⟨t_1394, t_1396, t_68, t_97, t_1397⟩ cd_M_leastAfter (by decide) 0 rfl rfl (sbW_self WM) nd_M rfl rfl (Nat.le_of_ble_eq_true rfl) d_M_findFar_105) ?_
    refine g_mx [100, 101, 102, 103, 104, 105, 106, 107, 108, 109, 110, 111, 112, 113, 114, 115] rfl ?_
    refine g_iload_n C0 3 d_M_findFar_108 rfl rfl ?_
    refine g_iconst C0 (v := 1) d_M_findFar_109 (by decide) ?_
    refine g_isub C0 d_M_findFar_110 ?_
    have hB := ite_some hE
    refine g_icmp_ne C0 (tgt := 123) d_M_findFar_111 (by decide) (fun c_ => ?_) (fun c_ => ?_)
    · replace hE := hB.2 c_
      obtain ⟨v123, e123, hE⟩ := nm_some hE
      refine g_iinc C0 4 [(3, .int v123), (4, .int y0), (0, .ref (ad 100)), (1, .int x1), (2, .int x2)] d_M_findFar_123 rfl (by rw [e123]; rfl) (by decide) rfl ?_
      refine g_goto C0 (tgt := 54) d_M_findFar_126 (by decide) ?_
      refine g_sub [2, 3, 4, 0] (L' := [(0, .ref (ad 100)), (1, .int x1), (2, .int x2), (3, .int v123)]) rfl ?_
      exact hk1 _ (Option.some.inj hE).symm
    · replace hE := hB.1 c_
      refine g_aload_n C0 1 d_M_findFar_114 rfl rfl ?_
      refine g_getr C0 CK_11 17 (by decide) t_1107 0 rfl rfl d_M_findFar_115 ?_
      refine g_iload_n C0 4 d_M_findFar_118 rfl rfl ?_
      refine g_iload_n C0 3 d_M_findFar_119 rfl rfl ?_
      obtain ⟨q120, hE⟩ := sA_some hE
      obtain ⟨h120, e120, hE⟩ := nm_some hE
      refine g_iast C0 8 rfl nd_M q120 d_M_findFar_120 ?_
      refine g_heap e120 ?_
      refine g_iconst C0 (v := 1) d_M_findFar_121 (by decide) ?_
      refine g_istore_n C0 [(1, .int 1), (4, .int y0), (0, .ref (ad 100)), (2, .int x2), (3, .int x3)] d_M_findFar_122 rfl (by decide) rfl ?_
      obtain ⟨v123, e123, hE⟩ := nm_some hE
      refine g_iinc C0 4 [(3, .int v123), (1, .int 1), (4, .int y0), (0, .ref (ad 100)), (2, .int x2)] d_M_findFar_123 rfl (by rw [e123]; rfl) (by decide) rfl ?_
      refine g_goto C0 (tgt := 54) d_M_findFar_126 (by decide) ?_
      refine g_sub [3, 1, 4, 0] (L' := [(0, .ref (ad 100)), (1, .int 1), (2, .int x2), (3, .int v123)]) rfl ?_
      exact hk1 _ (Option.some.inj hE).symm
theorem w_M_findFar_J95 {p : Program} {l : Launch} {e : Env} {s : State} {m : MethodId} {args : Array Value} {below : List Frame} {meth : Method} {c : Code} {K : KT} {A : Nat → Prop} {Q : State → Prop} (C0 : Cx p s m args meth c prog_13_method_54_code "CanoeSidesModel" 5 K A) (hr : meth.sig.returnType = (Option.none : Option Jvm.ClassFile.FieldType)) {ad : Nat → Nat} (N : Nat) (x1 : Int32) (x2 : Int32) (x3 : Int32) (h : Hp) {x_ : (Int32 × Int32 × Hp) ⊕ (Int32 × Hp)} (hE : K_M_findFar_J95 N x1 x2 x3 h = some x_) (hk1 : ∀ z_, x_ = .inl z_ → G p l e rm_M_findFar s m args below meth c K A WM 5 0 0 Q 54 [(0, .ref (ad 100)), (1, .int z_.1), (2, .int x2), (3, .int z_.2.1)] [] ad z_.2.2) (hk3 : ∀ z_, x_ = .inr z_ → G p l e rm_M_findFar s m args below meth c K A WM 5 0 0 Q 129 [(0, .ref (ad 100)), (1, .int z_.1), (2, .int x2)] [] ad z_.2) : G p l e rm_M_findFar s m args below meth c K A WM 5 0 0 Q 95 [(0, .ref (ad 100)), (1, .int x1), (2, .int x2), (3, .int x3)] [] ad h := by
  unfold K_M_findFar_J95 at hE
  refine g_iconst C0 (v := 0) d_M_findFar_95 (by decide) ?_
  exact w_M_findFar_J96 C0 hr N x1 x2 x3 0 h hE hk1 hk3
theorem w_M_findFar_L54 {p : Program} {l : Launch} {e : Env} {s : State} {m : MethodId} {args : Array Value} {below : List Frame} {meth : Method} {c : Code} {K : KT} {A : Nat → Prop} {Q : State → Prop} (C0 : Cx p s m args meth c prog_13_method_54_code "CanoeSidesModel" 5 K A) (hr : meth.sig.returnType = (Option.none : Option Jvm.ClassFile.FieldType)) {ad : Nat → Nat} (N : Nat) (x1 : Int32) (x2 : Int32) (x3 : Int32) (h : Hp) {x_ : (Int32 × Int32 × Hp) ⊕ (Int32 × Hp)} (hE : K_M_findFar_L54 N x1 x2 x3 h = some x_) (hk1 : ∀ z_, x_ = .inl z_ → G p l e rm_M_findFar s m args below meth c K A WM 5 0 0 Q 54 [(0, .ref (ad 100)), (1, .int z_.1), (2, .int x2), (3, .int z_.2.1)] [] ad z_.2.2) (hk3 : ∀ z_, x_ = .inr z_ → G p l e rm_M_findFar s m args below meth c K A WM 5 0 0 Q 129 [(0, .ref (ad 100)), (1, .int z_.1), (2, .int x2)] [] ad z_.2) : G p l e rm_M_findFar s m args below meth c K A WM 5 0 0 Q 54 [(0, .ref (ad 100)), (1, .int x1), (2, .int x2), (3, .int x3)] [] ad h := by
  unfold K_M_findFar_L54 at hE
  refine g_iload_n C0 3 d_M_findFar_54 rfl rfl ?_
  refine g_aload_n C0 0 d_M_findFar_55 rfl rfl ?_
  obtain ⟨v56, z56, hE⟩ := bd_some hE
  refine g_calliP C0 nd_M [100, 101, 102, 103, 104, 105, 106, 107, 108, 109, 110, 111, 112, 113, 114, 115] rfl (sbW_self WM) (runV C0 (m_M_states l K ad h z56) 0 rfl ⟨t_1381, t_1383, t_65, t_97, t_1384⟩ cd_M_states (by decide) 0 rfl rfl (sbW_self WM) nd_M rfl rfl (Nat.le_of_ble_eq_true rfl) d_M_findFar_56) ?_
  have hB := ite_some hE
  refine g_icmp_ge C0 (tgt := 129) d_M_findFar_59 (by decide) (fun c_ => ?_) (fun c_ => ?_)
  · replace hE := hB.1 c_
    refine g_sub [0, 1, 2] (L' := [(0, .ref (ad 100)), (1, .int x1), (2, .int x2)]) rfl ?_
    exact hk3 _ (Option.some.inj hE).symm
  · replace hE := hB.2 c_
    refine g_aload_n C0 0 d_M_findFar_62 rfl rfl ?_
    refine g_getr C0 CK_11 17 (by decide) t_1107 0 rfl rfl d_M_findFar_63 ?_
    refine g_iload_n C0 3 d_M_findFar_66 rfl rfl ?_
    obtain ⟨q67, v67, e67, hE⟩ := gA_some hE
    refine g_iald C0 8 rfl q67 d_M_findFar_67 ?_
    refine g_top e67 ?_
    refine g_ldc C0 (v := 99999999) t_1393 d_M_findFar_68 ?_
    have hB := ite_some hE
    refine g_icmp_ne C0 (tgt := 95) d_M_findFar_70 (by decide) (fun c_ => ?_) (fun c_ => ?_)
    · replace hE := hB.2 c_
      exact w_M_findFar_J95 C0 hr N x1 x2 x3 h hE hk1 hk3
    · replace hE := hB.1 c_
      refine g_aload_n C0 0 d_M_findFar_73 rfl rfl ?_
      refine g_getr C0 CK_11 2 (by decide) t_1092 0 rfl rfl d_M_findFar_74 ?_
      refine g_iload_n C0 3 d_M_findFar_77 rfl rfl ?_
      refine g_aload_n C0 0 d_M_findFar_78 rfl rfl ?_
      obtain ⟨v79, z79, hE⟩ := bd_some hE
      refine g_calliP C0 nd_M [100, 101, 102, 103, 104, 105, 106, 107, 108, 109, 110, 111, 112, 113, 114, 115] rfl (sbW_self WM) (runV C0 (m_M_times l K ad h z79) 0 rfl ⟨t_1385, t_1387, t_66, t_97, t_1388⟩ cd_M_times (by decide) 0 rfl rfl (sbW_self WM) nd_M rfl rfl (Nat.le_of_ble_eq_true rfl) d_M_findFar_79) ?_
      obtain ⟨q82, hE⟩ := dz_some hE
      refine g_idiv C0 d_M_findFar_82 q82 ?_
      refine g_bipush C0 (v := 8) d_M_findFar_83 (by decide) ?_
      refine g_idiv C0 d_M_findFar_85 (by decide) ?_
      obtain ⟨q86, v86, e86, hE⟩ := gA_some hE
      refine g_iald C0 3 rfl q86 d_M_findFar_86 ?_
      refine g_top e86 ?_
      refine g_iconst C0 (v := 1) d_M_findFar_87 (by decide) ?_
      have hB := ite_some hE
      refine g_icmp_eq C0 (tgt := 95) d_M_findFar_88 (by decide) (fun c_ => ?_) (fun c_ => ?_)
      · replace hE := hB.1 c_
        exact w_M_findFar_J95 C0 hr N x1 x2 x3 h hE hk1 hk3
      · replace hE := hB.2 c_
        refine g_iconst C0 (v := 1) d_M_findFar_91 (by decide) ?_
        refine g_goto C0 (tgt := 96) d_M_findFar_92 (by decide) ?_
        exact w_M_findFar_J96 C0 hr N x1 x2 x3 1 h hE hk1 hk3
theorem w_M_findFar_L40 {p : Program} {l : Launch} {e : Env} {s : State} {m : MethodId} {args : Array Value} {below : List Frame} {meth : Method} {c : Code} {K : KT} {A : Nat → Prop} {Q : State → Prop} (C0 : Cx p s m args meth c prog_13_method_54_code "CanoeSidesModel" 5 K A) (hr : meth.sig.returnType = (Option.none : Option Jvm.ClassFile.FieldType)) {ad : Nat → Nat} (N : Nat) (x1 : Int32) (x2 : Int32) (h : Hp) {x_ : (Int32 × Int32 × Hp) ⊕ (Hp)} (hE : K_M_findFar_L40 N x1 x2 h = some x_) (hk1 : ∀ z_, x_ = .inl z_ → G p l e rm_M_findFar s m args below meth c K A WM 5 0 0 Q 40 [(0, .ref (ad 100)), (1, .int z_.1), (2, .int z_.2.1)] [] ad z_.2.2) (hk3 : ∀ z_, x_ = .inr z_ → G p l e rm_M_findFar s m args below meth c K A WM 5 0 0 Q 135 [] [] ad z_) : G p l e rm_M_findFar s m args below meth c K A WM 5 0 0 Q 40 [(0, .ref (ad 100)), (1, .int x1), (2, .int x2)] [] ad h := by
  unfold K_M_findFar_L40 at hE
  refine g_iload_n C0 2 d_M_findFar_40 rfl rfl ?_
  refine g_bipush C0 (v := 60) d_M_findFar_41 (by decide) ?_
  have hB := ite_some hE
  refine g_icmp_gt C0 (tgt := 135) d_M_findFar_43 (by decide) (fun c_ => ?_) (fun c_ => ?_)
  · replace hE := hB.1 c_
    refine g_sub [] (L' := []) rfl ?_
    exact hk3 _ (Option.some.inj hE).symm
  · replace hE := hB.2 c_
    refine g_iload_n C0 1 d_M_findFar_46 rfl rfl ?_
    have hB := ite_some hE
    refine g_if_eq C0 (tgt := 135) d_M_findFar_47 (by decide) (fun c_ => ?_) (fun c_ => ?_)
    · replace hE := hB.1 c_
      refine g_sub [] (L' := []) rfl ?_
      exact hk3 _ (Option.some.inj hE).symm
    · replace hE := hB.2 c_
      refine g_iconst C0 (v := 0) d_M_findFar_50 (by decide) ?_
      refine g_istore_n C0 [(1, .int 0), (0, .ref (ad 100)), (2, .int x2)] d_M_findFar_51 rfl (by decide) rfl ?_
      refine g_iconst C0 (v := 0) d_M_findFar_52 (by decide) ?_
      refine g_istore_n C0 [(3, .int 0), (1, .int 0), (0, .ref (ad 100)), (2, .int x2)] d_M_findFar_53 rfl (by decide) rfl ?_
      refine g_sub [2, 1, 3, 0] (L' := [(0, .ref (ad 100)), (1, .int 0), (2, .int x2), (3, .int 0)]) rfl ?_
      obtain ⟨t54, z54, hE⟩ := bd_some hE
      refine loopG (fun z_ : Int32 × Int32 × Hp => K_M_findFar_L54 N z_.1 x2 z_.2.1 z_.2.2) (fun z_ : Int32 × Int32 × Hp => G p l e rm_M_findFar s m args below meth c K A WM 5 0 0 _ 54 [(0, .ref (ad 100)), (1, .int z_.1), (2, .int x2), (3, .int z_.2.1)] [] ad z_.2.2) (fun z_ : Int32 × Hp => G p l e rm_M_findFar s m args below meth c K A WM 5 0 0 _ 129 [(0, .ref (ad 100)), (1, .int z_.1), (2, .int x2)] [] ad z_.2) (fun z_ x_ hz k1 k2 => w_M_findFar_L54 C0 hr N z_.1 x2 z_.2.1 z_.2.2 hz k1 k2) _ _ _ z54 ?_
      try dsimp only
      obtain ⟨v129, e129, hE⟩ := nm_some hE
      refine g_iinc C0 2 [(2, .int v129), (0, .ref (ad 100)), (1, .int t54.1)] d_M_findFar_129 rfl (by rw [e129]; rfl) (by decide) rfl ?_
      refine g_goto C0 (tgt := 40) d_M_findFar_132 (by decide) ?_
      refine g_sub [1, 2, 0] (L' := [(0, .ref (ad 100)), (1, .int t54.1), (2, .int v129)]) rfl ?_
      exact hk1 _ (Option.some.inj hE).symm
theorem w_M_findFar {p : Program} {l : Launch} {e : Env} {s : State} {m : MethodId} {args : Array Value} {below : List Frame} {meth : Method} {c : Code} {K : KT} {A : Nat → Prop} (C0 : Cx p s m args meth c prog_13_method_54_code "CanoeSidesModel" 5 K A) (hr : meth.sig.returnType = (Option.none : Option Jvm.ClassFile.FieldType)) {ad : Nat → Nat} (N : Nat) (h : Hp) {res : Hp} (hE : K_M_findFar N h = some res) : G p l e rm_M_findFar s m args below meth c K A WM 5 0 0 (QV s args below K A WM 0 0 ad res) 0 [(0, .ref (ad 100))] [] ad h := by
  unfold K_M_findFar at hE
  refine g_iconst C0 (v := 0) d_M_findFar_0 (by decide) ?_
  refine g_istore_n C0 [(1, .int 0), (0, .ref (ad 100))] d_M_findFar_1 rfl (by decide) rfl ?_
  refine g_sub [1, 0] (L' := [(0, .ref (ad 100)), (1, .int 0)]) rfl ?_
  obtain ⟨t2, z2, hE⟩ := bd_some hE
  refine loopG (fun z_ : Int32 × Hp => K_M_findFar_L2 N z_.1 z_.2) (fun z_ : Int32 × Hp => G p l e rm_M_findFar s m args below meth c K A WM 5 0 0 _ 2 [(0, .ref (ad 100)), (1, .int z_.1)] [] ad z_.2) (fun z_ : Hp => G p l e rm_M_findFar s m args below meth c K A WM 5 0 0 _ 36 [(0, .ref (ad 100))] [] ad z_) (fun z_ x_ hz k1 k2 => w_M_findFar_L2 C0 hr N z_.1 z_.2 hz k1 k2) _ _ _ z2 ?_
  try dsimp only
  refine g_iconst C0 (v := 1) d_M_findFar_36 (by decide) ?_
  refine g_istore_n C0 [(1, .int 1), (0, .ref (ad 100))] d_M_findFar_37 rfl (by decide) rfl ?_
  refine g_iconst C0 (v := 1) d_M_findFar_38 (by decide) ?_
  refine g_istore_n C0 [(2, .int 1), (1, .int 1), (0, .ref (ad 100))] d_M_findFar_39 rfl (by decide) rfl ?_
  refine g_sub [2, 1, 0] (L' := [(0, .ref (ad 100)), (1, .int 1), (2, .int 1)]) rfl ?_
  obtain ⟨t40, z40, hE⟩ := bd_some hE
  refine loopG (fun z_ : Int32 × Int32 × Hp => K_M_findFar_L40 N z_.1 z_.2.1 z_.2.2) (fun z_ : Int32 × Int32 × Hp => G p l e rm_M_findFar s m args below meth c K A WM 5 0 0 _ 40 [(0, .ref (ad 100)), (1, .int z_.1), (2, .int z_.2.1)] [] ad z_.2.2) (fun z_ : Hp => G p l e rm_M_findFar s m args below meth c K A WM 5 0 0 _ 135 [] [] ad z_) (fun z_ x_ hz k1 k2 => w_M_findFar_L40 C0 hr N z_.1 z_.2.1 z_.2.2 hz k1 k2) _ _ _ z40 ?_
  try dsimp only
  obtain rfl := Option.some.inj hE
  exact g_vret C0 hr d_M_findFar_135
theorem m_M_findFar (l : Launch) (K : KT) (ad : Nat → Nat) (h : Hp) (N : Nat) {res : Hp} (hE : K_M_findFar N h = some res) : ConV l y_M_findFar prog_13_method_54_code 5 (Option.none : Option Jvm.ClassFile.FieldType) rm_M_findFar K WM ad h [.ref (ad 100)] res := fun sz =>
  con_start [(0, .ref (ad 100))] (by decide +kernel) rfl (Nat.le_of_ble_eq_true rfl) (fun p e s m args below meth c C0 hr hnm hsz => w_M_findFar C0 hr N h hE)
abbrev y_M_findFarBy : MethodName := ⟨"CanoeSidesModel", "findFarBy", "(II)V"⟩
abbrev rm_M_findFarBy : Room := { frames := 8, cells := 0, slots := 0, locals := 196 }
theorem cd_M_findFarBy : cwd y_M_findFarBy 2 := by decide +kernel
theorem d_M_findFarBy_0 : decode prog_13_method_55_code 0 = .ok (.aload_n 0, 1) := by decide +kernel
theorem d_M_findFarBy_1 : decode prog_13_method_55_code 1 = .ok (.iload_n 1, 1) := by decide +kernel
theorem d_M_findFarBy_2 : decode prog_13_method_55_code 2 = .ok (.putfield 166, 3) := by decide +kernel
theorem d_M_findFarBy_5 : decode prog_13_method_55_code 5 = .ok (.aload_n 0, 1) := by decide +kernel
theorem d_M_findFarBy_6 : decode prog_13_method_55_code 6 = .ok (.iconst 3, 1) := by decide +kernel
theorem d_M_findFarBy_7 : decode prog_13_method_55_code 7 = .ok (.putfield 241, 3) := by decide +kernel
theorem d_M_findFarBy_10 : decode prog_13_method_55_code 10 = .ok (.aload_n 0, 1) := by decide +kernel
theorem d_M_findFarBy_11 : decode prog_13_method_55_code 11 = .ok (.iload_n 2, 1) := by decide +kernel
theorem d_M_findFarBy_12 : decode prog_13_method_55_code 12 = .ok (.putfield 244, 3) := by decide +kernel
theorem d_M_findFarBy_15 : decode prog_13_method_55_code 15 = .ok (.aload_n 0, 1) := by decide +kernel
theorem d_M_findFarBy_16 : decode prog_13_method_55_code 16 = .ok (.invokevirtual 259, 3) := by decide +kernel
theorem d_M_findFarBy_19 : decode prog_13_method_55_code 19 = .ok (.return_, 1) := by decide +kernel
theorem w_M_findFarBy {p : Program} {l : Launch} {e : Env} {s : State} {m : MethodId} {args : Array Value} {below : List Frame} {meth : Method} {c : Code} {K : KT} {A : Nat → Prop} (C0 : Cx p s m args meth c prog_13_method_55_code "CanoeSidesModel" 3 K A) (hr : meth.sig.returnType = (Option.none : Option Jvm.ClassFile.FieldType)) {ad : Nat → Nat} (N : Nat) (a0 : Int32) (b0 : Int32) (h : Hp) {res : Hp} (hE : K_M_findFarBy N a0 b0 h = some res) : G p l e rm_M_findFarBy s m args below meth c K A WM 3 0 0 (QV s args below K A WM 0 0 ad res) 0 [(0, .ref (ad 100)), (1, .int a0), (2, .int b0)] [] ad h := by
  unfold K_M_findFarBy at hE
  refine g_aload_n C0 0 d_M_findFarBy_0 rfl rfl ?_
  refine g_iload_n C0 1 d_M_findFarBy_1 rfl rfl ?_
  obtain ⟨h2, e2, hE⟩ := nm_some hE
  refine g_puti C0 CK_11 CT_11 12 (by decide) t_1102 rfl (by decide +kernel) nd_M 0 rfl rfl d_M_findFarBy_2 ?_
  refine g_heap e2 ?_
  refine g_aload_n C0 0 d_M_findFarBy_5 rfl rfl ?_
  refine g_iconst C0 (v := 3) d_M_findFarBy_6 (by decide) ?_
  obtain ⟨h7, e7, hE⟩ := nm_some hE
  refine g_puti C0 CK_11 CT_11 18 (by decide) t_1108 rfl (by decide +kernel) nd_M 0 rfl rfl d_M_findFarBy_7 ?_
  refine g_heap e7 ?_
  refine g_aload_n C0 0 d_M_findFarBy_10 rfl rfl ?_
  refine g_iload_n C0 2 d_M_findFarBy_11 rfl rfl ?_
  obtain ⟨h12, e12, hE⟩ := nm_some hE
  refine g_puti C0 CK_11 CT_11 19 (by decide) t_1109 rfl (by decide +kernel) nd_M 0 rfl rfl d_M_findFarBy_12 ?_
  refine g_heap e12 ?_
  refine g_aload_n C0 0 d_M_findFarBy_15 rfl rfl ?_
  obtain ⟨h16, z16, hE⟩ := bd_some hE
  refine g_callv C0 nd_M [100, 101, 102, 103, 104, 105, 106, 107, 108, 109, 110, 111, 112, 113, 114, 115] rfl (sbW_self WM) (runV C0 (m_M_findFar l K ad h12 N z16) 0 rfl ⟨t_1377, t_1379, t_64, t_97, t_1380⟩ cd_M_findFar (by decide) 0 rfl rfl (sbW_self WM) nd_M rfl rfl (Nat.le_of_ble_eq_true rfl) d_M_findFarBy_16) ?_
  refine g_mx [100, 101, 102, 103, 104, 105, 106, 107, 108, 109, 110, 111, 112, 113, 114, 115] rfl ?_
  obtain rfl := Option.some.inj hE
  exact g_vret C0 hr d_M_findFarBy_19
theorem m_M_findFarBy (l : Launch) (K : KT) (ad : Nat → Nat) (h : Hp) (N : Nat) (a0 : Int32) (b0 : Int32) {res : Hp} (hE : K_M_findFarBy N a0 b0 h = some res) : ConV l y_M_findFarBy prog_13_method_55_code 3 (Option.none : Option Jvm.ClassFile.FieldType) rm_M_findFarBy K WM ad h [.ref (ad 100), .int a0, .int b0] res := fun sz =>
  con_start [(0, .ref (ad 100)), (1, .int a0), (2, .int b0)] (by decide +kernel) rfl (Nat.le_of_ble_eq_true rfl) (fun p e s m args below meth c C0 hr hnm hsz => w_M_findFarBy C0 hr N a0 b0 h hE)
abbrev y_M_fewest : MethodName := ⟨"CanoeSidesModel", "fewest", "(I)I"⟩
abbrev rm_M_fewest : Room := { frames := 9, cells := 0, slots := 0, locals := 218 }
theorem cd_M_fewest : cwd y_M_fewest 1 := by decide +kernel
theorem d_M_fewest_0 : decode prog_13_method_56_code 0 = .ok (.aload_n 0, 1) := by decide +kernel
theorem d_M_fewest_1 : decode prog_13_method_56_code 1 = .ok (.invokevirtual 143, 3) := by decide +kernel
theorem d_M_fewest_4 : decode prog_13_method_56_code 4 = .ok (.ifCond .eq 6, 3) := by decide +kernel
theorem d_M_fewest_7 : decode prog_13_method_56_code 7 = .ok (.ldc 215, 2) := by decide +kernel
theorem d_M_fewest_9 : decode prog_13_method_56_code 9 = .ok (.ireturn, 1) := by decide +kernel
theorem d_M_fewest_10 : decode prog_13_method_56_code 10 = .ok (.aload_n 0, 1) := by decide +kernel
theorem d_M_fewest_11 : decode prog_13_method_56_code 11 = .ok (.iconst 0, 1) := by decide +kernel
theorem d_M_fewest_12 : decode prog_13_method_56_code 12 = .ok (.iconst 0, 1) := by decide +kernel
theorem d_M_fewest_13 : decode prog_13_method_56_code 13 = .ok (.invokevirtual 262, 3) := by decide +kernel
theorem d_M_fewest_16 : decode prog_13_method_56_code 16 = .ok (.aload_n 0, 1) := by decide +kernel
theorem d_M_fewest_17 : decode prog_13_method_56_code 17 = .ok (.invokevirtual 265, 3) := by decide +kernel
theorem d_M_fewest_20 : decode prog_13_method_56_code 20 = .ok (.istore_n 2, 1) := by decide +kernel
theorem d_M_fewest_21 : decode prog_13_method_56_code 21 = .ok (.aload_n 0, 1) := by decide +kernel
theorem d_M_fewest_22 : decode prog_13_method_56_code 22 = .ok (.getfield 36, 3) := by decide +kernel
theorem d_M_fewest_25 : decode prog_13_method_56_code 25 = .ok (.iload_n 2, 1) := by decide +kernel
theorem d_M_fewest_26 : decode prog_13_method_56_code 26 = .ok (.iaload, 1) := by decide +kernel
theorem d_M_fewest_27 : decode prog_13_method_56_code 27 = .ok (.istore_n 3, 1) := by decide +kernel
theorem d_M_fewest_28 : decode prog_13_method_56_code 28 = .ok (.iload_n 3, 1) := by decide +kernel
theorem d_M_fewest_29 : decode prog_13_method_56_code 29 = .ok (.ldc 240, 2) := by decide +kernel
theorem d_M_fewest_31 : decode prog_13_method_56_code 31 = .ok (.if_icmp .eq 12, 3) := by decide +kernel
theorem d_M_fewest_34 : decode prog_13_method_56_code 34 = .ok (.iload_n 1, 1) := by decide +kernel
theorem d_M_fewest_35 : decode prog_13_method_56_code 35 = .ok (.ifCond .lt 8, 3) := by decide +kernel
theorem d_M_fewest_38 : decode prog_13_method_56_code 38 = .ok (.iload_n 1, 1) := by decide +kernel
theorem d_M_fewest_39 : decode prog_13_method_56_code 39 = .ok (.iload_n 3, 1) := by decide +kernel
theorem d_M_fewest_40 : decode prog_13_method_56_code 40 = .ok (.if_icmp .lt 20, 3) := by decide +kernel
theorem d_M_fewest_43 : decode prog_13_method_56_code 43 = .ok (.iload_n 3, 1) := by decide +kernel
theorem d_M_fewest_44 : decode prog_13_method_56_code 44 = .ok (.ldc 240, 2) := by decide +kernel
theorem d_M_fewest_46 : decode prog_13_method_56_code 46 = .ok (.if_icmp .eq 12, 3) := by decide +kernel
theorem d_M_fewest_49 : decode prog_13_method_56_code 49 = .ok (.iload_n 1, 1) := by decide +kernel
theorem d_M_fewest_50 : decode prog_13_method_56_code 50 = .ok (.iconst (-1), 1) := by decide +kernel
theorem d_M_fewest_51 : decode prog_13_method_56_code 51 = .ok (.if_icmp .ne 7, 3) := by decide +kernel
theorem d_M_fewest_54 : decode prog_13_method_56_code 54 = .ok (.iload_n 3, 1) := by decide +kernel
theorem d_M_fewest_55 : decode prog_13_method_56_code 55 = .ok (.goto 4, 3) := by decide +kernel
theorem d_M_fewest_58 : decode prog_13_method_56_code 58 = .ok (.iconst (-1), 1) := by decide +kernel
theorem d_M_fewest_59 : decode prog_13_method_56_code 59 = .ok (.ireturn, 1) := by decide +kernel
theorem d_M_fewest_60 : decode prog_13_method_56_code 60 = .ok (.iconst 0, 1) := by decide +kernel
theorem d_M_fewest_61 : decode prog_13_method_56_code 61 = .ok (.istore 4, 2) := by decide +kernel
theorem d_M_fewest_63 : decode prog_13_method_56_code 63 = .ok (.iconst 0, 1) := by decide +kernel
theorem d_M_fewest_64 : decode prog_13_method_56_code 64 = .ok (.istore 5, 2) := by decide +kernel
theorem d_M_fewest_66 : decode prog_13_method_56_code 66 = .ok (.iload 5, 2) := by decide +kernel
theorem d_M_fewest_68 : decode prog_13_method_56_code 68 = .ok (.iload_n 1, 1) := by decide +kernel
theorem d_M_fewest_69 : decode prog_13_method_56_code 69 = .ok (.if_icmp .gt 59, 3) := by decide +kernel
theorem d_M_fewest_72 : decode prog_13_method_56_code 72 = .ok (.iconst 0, 1) := by decide +kernel
theorem d_M_fewest_73 : decode prog_13_method_56_code 73 = .ok (.istore 4, 2) := by decide +kernel
theorem d_M_fewest_75 : decode prog_13_method_56_code 75 = .ok (.aload_n 0, 1) := by decide +kernel
theorem d_M_fewest_76 : decode prog_13_method_56_code 76 = .ok (.getfield 36, 3) := by decide +kernel
theorem d_M_fewest_79 : decode prog_13_method_56_code 79 = .ok (.aload_n 0, 1) := by decide +kernel
theorem d_M_fewest_80 : decode prog_13_method_56_code 80 = .ok (.iload_n 2, 1) := by decide +kernel
theorem d_M_fewest_81 : decode prog_13_method_56_code 81 = .ok (.iload 4, 2) := by decide +kernel
theorem d_M_fewest_83 : decode prog_13_method_56_code 83 = .ok (.iconst 4, 1) := by decide +kernel
theorem d_M_fewest_84 : decode prog_13_method_56_code 84 = .ok (.idiv, 1) := by decide +kernel
theorem d_M_fewest_85 : decode prog_13_method_56_code 85 = .ok (.iload 4, 2) := by decide +kernel
theorem d_M_fewest_87 : decode prog_13_method_56_code 87 = .ok (.iconst 4, 1) := by decide +kernel
theorem d_M_fewest_88 : decode prog_13_method_56_code 88 = .ok (.irem, 1) := by decide +kernel
theorem d_M_fewest_89 : decode prog_13_method_56_code 89 = .ok (.invokevirtual 247, 3) := by decide +kernel
theorem d_M_fewest_92 : decode prog_13_method_56_code 92 = .ok (.iaload, 1) := by decide +kernel
theorem d_M_fewest_93 : decode prog_13_method_56_code 93 = .ok (.iload_n 3, 1) := by decide +kernel
theorem d_M_fewest_94 : decode prog_13_method_56_code 94 = .ok (.iload 5, 2) := by decide +kernel
theorem d_M_fewest_96 : decode prog_13_method_56_code 96 = .ok (.isub, 1) := by decide +kernel
theorem d_M_fewest_97 : decode prog_13_method_56_code 97 = .ok (.iconst 1, 1) := by decide +kernel
theorem d_M_fewest_98 : decode prog_13_method_56_code 98 = .ok (.isub, 1) := by decide +kernel
theorem d_M_fewest_99 : decode prog_13_method_56_code 99 = .ok (.if_icmp .eq 9, 3) := by decide +kernel
theorem d_M_fewest_102 : decode prog_13_method_56_code 102 = .ok (.iinc 4 1, 3) := by decide +kernel
theorem d_M_fewest_105 : decode prog_13_method_56_code 105 = .ok (.goto (-30), 3) := by decide +kernel
theorem d_M_fewest_108 : decode prog_13_method_56_code 108 = .ok (.aload_n 0, 1) := by decide +kernel
theorem d_M_fewest_109 : decode prog_13_method_56_code 109 = .ok (.iload_n 2, 1) := by decide +kernel
theorem d_M_fewest_110 : decode prog_13_method_56_code 110 = .ok (.iload 4, 2) := by decide +kernel
theorem d_M_fewest_112 : decode prog_13_method_56_code 112 = .ok (.iconst 4, 1) := by decide +kernel
theorem d_M_fewest_113 : decode prog_13_method_56_code 113 = .ok (.idiv, 1) := by decide +kernel
theorem d_M_fewest_114 : decode prog_13_method_56_code 114 = .ok (.iload 4, 2) := by decide +kernel
theorem d_M_fewest_116 : decode prog_13_method_56_code 116 = .ok (.iconst 4, 1) := by decide +kernel
theorem d_M_fewest_117 : decode prog_13_method_56_code 117 = .ok (.irem, 1) := by decide +kernel
theorem d_M_fewest_118 : decode prog_13_method_56_code 118 = .ok (.invokevirtual 247, 3) := by decide +kernel
theorem d_M_fewest_121 : decode prog_13_method_56_code 121 = .ok (.istore_n 2, 1) := by decide +kernel
theorem d_M_fewest_122 : decode prog_13_method_56_code 122 = .ok (.iinc 5 1, 3) := by decide +kernel
theorem d_M_fewest_125 : decode prog_13_method_56_code 125 = .ok (.goto (-59), 3) := by decide +kernel
theorem d_M_fewest_128 : decode prog_13_method_56_code 128 = .ok (.iload 4, 2) := by decide +kernel
theorem d_M_fewest_130 : decode prog_13_method_56_code 130 = .ok (.ireturn, 1) := by decide +kernel
theorem w_M_fewest_J43 {p : Program} {l : Launch} {e : Env} {s : State} {m : MethodId} {args : Array Value} {below : List Frame} {meth : Method} {c : Code} {K : KT} {A : Nat → Prop} (C0 : Cx p s m args meth c prog_13_method_56_code "CanoeSidesModel" 6 K A) (hr : meth.sig.returnType = (Option.some Jvm.ClassFile.FieldType.int)) {ad : Nat → Nat} (N : Nat) (x1 : Int32) (x3 : Int32) (h : Hp) {res : Int32 × Hp} (hE : K_M_fewest_J43 N x1 x3 h = some res) : G p l e rm_M_fewest s m args below meth c K A WM 6 0 0 (QI s args below K A WM 0 0 ad res.1 res.2) 43 [(1, .int x1), (3, .int x3)] [] ad h := by
  unfold K_M_fewest_J43 at hE
  refine g_iload_n C0 1 d_M_fewest_43 rfl rfl ?_
  refine g_ldc C0 (v := 99999999) t_1393 d_M_fewest_44 ?_
  have hB := ite_some hE
  refine g_icmp_eq C0 (tgt := 58) d_M_fewest_46 (by decide) (fun c_ => ?_) (fun c_ => ?_)
  · replace hE := hB.1 c_
    refine g_iconst C0 (v := (-1)) d_M_fewest_58 (by decide) ?_
    obtain rfl := Option.some.inj hE
    exact g_iret C0 hr d_M_fewest_59
  · replace hE := hB.2 c_
    refine g_iload_n C0 0 d_M_fewest_49 rfl rfl ?_
    refine g_iconst C0 (v := (-1)) d_M_fewest_50 (by decide) ?_
    have hB := ite_some hE
    refine g_icmp_ne C0 (tgt := 58) d_M_fewest_51 (by decide) (fun c_ => ?_) (fun c_ => ?_)
    · replace hE := hB.2 c_
      refine g_iconst C0 (v := (-1)) d_M_fewest_58 (by decide) ?_
      obtain rfl := Option.some.inj hE
      exact g_iret C0 hr d_M_fewest_59
    · replace hE := hB.1 c_
      refine g_iload_n C0 1 d_M_fewest_54 rfl rfl ?_
      refine g_goto C0 (tgt := 59) d_M_fewest_55 (by decide) ?_
      obtain rfl := Option.some.inj hE
      exact g_iret C0 hr d_M_fewest_59
theorem w_M_fewest_L75 {p : Program} {l : Launch} {e : Env} {s : State} {m : MethodId} {args : Array Value} {below : List Frame} {meth : Method} {c : Code} {K : KT} {A : Nat → Prop} {Q : State → Prop} (C0 : Cx p s m args meth c prog_13_method_56_code "CanoeSidesModel" 6 K A) (hr : meth.sig.returnType = (Option.some Jvm.ClassFile.FieldType.int)) {ad : Nat → Nat} (N : Nat) (x1 : Int32) (x2 : Int32) (x3 : Int32) (x4 : Int32) (x5 : Int32) (h : Hp) {x_ : (Int32 × Hp) ⊕ (Int32 × Hp)} (hE : K_M_fewest_L75 N x1 x2 x3 x4 x5 h = some x_) (hk1 : ∀ z_, x_ = .inl z_ → G p l e rm_M_fewest s m args below meth c K A WM 6 0 0 Q 75 [(0, .ref (ad 100)), (1, .int x1), (2, .int x2), (3, .int x3), (4, .int z_.1), (5, .int x5)] [] ad z_.2) (hk3 : ∀ z_, x_ = .inr z_ → G p l e rm_M_fewest s m args below meth c K A WM 6 0 0 Q 108 [(0, .ref (ad 100)), (1, .int x1), (2, .int x2), (3, .int x3), (4, .int z_.1), (5, .int x5)] [] ad z_.2) : G p l e rm_M_fewest s m args below meth c K A WM 6 0 0 Q 75 [(0, .ref (ad 100)), (1, .int x1), (2, .int x2), (3, .int x3), (4, .int x4), (5, .int x5)] [] ad h := by
  unfold K_M_fewest_L75 at hE
  refine g_aload_n C0 0 d_M_fewest_75 rfl rfl ?_
  refine g_getr C0 CK_11 17 (by decide) t_1107 0 rfl rfl d_M_fewest_76 ?_
  refine g_aload_n C0 0 d_M_fewest_79 rfl rfl ?_
  refine g_iload_n C0 2 d_M_fewest_80 rfl rfl ?_
  refine g_iload C0 4 d_M_fewest_81 rfl ?_
  refine g_iconst C0 (v := 4) d_M_fewest_83 (by decide) ?_
  refine g_idiv C0 d_M_fewest_84 (by decide) ?_
  refine g_iload C0 4 d_M_fewest_85 rfl ?_
  refine g_iconst C0 (v := 4) d_M_fewest_87 (by decide) ?_
  refine g_irem C0 d_M_fewest_88 (by decide) ?_
  obtain ⟨v89, h89, z89, hE⟩ := bd2_some hE
  refine g_calli C0 nd_M [100, 101, 102, 103, 104, 105, 106, 107, 108, 109, 110, 111, 112, 113, 114, 115] rfl (sbW_self WM) (runV C0 (m_M_after l K ad h N x2 (x4 / 4) (rm32 x4 4) z89) 3 rfl ⟨t_1398, t_1400, t_69, t_97, t_1401⟩ cd_M_after (by decide) 0 rfl rfl (sbW_self WM) nd_M rfl rfl (Nat.le_of_ble_eq_true rfl) d_M_fewest_89) ?_
  refine g_mx [100, 101, 102, 103, 104, 105, 106, 107, 108, 109, 110, 111, 112, 113, 114, 115] rfl ?_
  obtain ⟨q92, v92, e92, hE⟩ := gA_some hE
  refine g_iald C0 8 rfl q92 d_M_fewest_92 ?_
  refine g_top e92 ?_
  refine g_iload_n C0 3 d_M_fewest_93 rfl rfl ?_
  refine g_iload C0 5 d_M_fewest_94 rfl ?_
  refine g_isub C0 d_M_fewest_96 ?_
  refine g_iconst C0 (v := 1) d_M_fewest_97 (by decide) ?_
  refine g_isub C0 d_M_fewest_98 ?_
  have hB := ite_some hE
  refine g_icmp_eq C0 (tgt := 108) d_M_fewest_99 (by decide) (fun c_ => ?_) (fun c_ => ?_)
  · replace hE := hB.1 c_
    exact hk3 _ (Option.some.inj hE).symm
  · replace hE := hB.2 c_
    obtain ⟨v102, e102, hE⟩ := nm_some hE
    refine g_iinc C0 4 [(4, .int v102), (0, .ref (ad 100)), (1, .int x1), (2, .int x2), (3, .int x3), (5, .int x5)] d_M_fewest_102 rfl (by rw [e102]; rfl) (by decide) rfl ?_
    refine g_goto C0 (tgt := 75) d_M_fewest_105 (by decide) ?_
    refine g_sub [1, 2, 3, 4, 0, 5] (L' := [(0, .ref (ad 100)), (1, .int x1), (2, .int x2), (3, .int x3), (4, .int v102), (5, .int x5)]) rfl ?_
    exact hk1 _ (Option.some.inj hE).symm
theorem w_M_fewest_L66 {p : Program} {l : Launch} {e : Env} {s : State} {m : MethodId} {args : Array Value} {below : List Frame} {meth : Method} {c : Code} {K : KT} {A : Nat → Prop} {Q : State → Prop} (C0 : Cx p s m args meth c prog_13_method_56_code "CanoeSidesModel" 6 K A) (hr : meth.sig.returnType = (Option.some Jvm.ClassFile.FieldType.int)) {ad : Nat → Nat} (N : Nat) (x1 : Int32) (x2 : Int32) (x3 : Int32) (x4 : Int32) (x5 : Int32) (h : Hp) {x_ : (Int32 × Int32 × Int32 × Hp) ⊕ (Int32 × Hp)} (hE : K_M_fewest_L66 N x1 x2 x3 x4 x5 h = some x_) (hk1 : ∀ z_, x_ = .inl z_ → G p l e rm_M_fewest s m args below meth c K A WM 6 0 0 Q 66 [(0, .ref (ad 100)), (1, .int x1), (2, .int z_.1), (3, .int x3), (4, .int z_.2.1), (5, .int z_.2.2.1)] [] ad z_.2.2.2) (hk3 : ∀ z_, x_ = .inr z_ → G p l e rm_M_fewest s m args below meth c K A WM 6 0 0 Q 128 [(4, .int z_.1)] [] ad z_.2) : G p l e rm_M_fewest s m args below meth c K A WM 6 0 0 Q 66 [(0, .ref (ad 100)), (1, .int x1), (2, .int x2), (3, .int x3), (4, .int x4), (5, .int x5)] [] ad h := by
  unfold K_M_fewest_L66 at hE
  refine g_iload C0 5 d_M_fewest_66 rfl ?_
  refine g_iload_n C0 1 d_M_fewest_68 rfl rfl ?_
  have hB := ite_some hE
  refine g_icmp_gt C0 (tgt := 128) d_M_fewest_69 (by decide) (fun c_ => ?_) (fun c_ => ?_)
  · replace hE := hB.1 c_
    refine g_sub [4] (L' := [(4, .int x4)]) rfl ?_
    exact hk3 _ (Option.some.inj hE).symm
  · replace hE := hB.2 c_
    refine g_iconst C0 (v := 0) d_M_fewest_72 (by decide) ?_
    refine g_istore C0 [(4, .int 0), (0, .ref (ad 100)), (1, .int x1), (2, .int x2), (3, .int x3), (5, .int x5)] d_M_fewest_73 (by decide) rfl ?_
    refine g_sub [1, 2, 3, 4, 0, 5] (L' := [(0, .ref (ad 100)), (1, .int x1), (2, .int x2), (3, .int x3), (4, .int 0), (5, .int x5)]) rfl ?_
    obtain ⟨t75, z75, hE⟩ := bd_some hE
    refine loopG (fun z_ : Int32 × Hp => K_M_fewest_L75 N x1 x2 x3 z_.1 x5 z_.2) (fun z_ : Int32 × Hp => G p l e rm_M_fewest s m args below meth c K A WM 6 0 0 _ 75 [(0, .ref (ad 100)), (1, .int x1), (2, .int x2), (3, .int x3), (4, .int z_.1), (5, .int x5)] [] ad z_.2) (fun z_ : Int32 × Hp => G p l e rm_M_fewest s m args below meth c K A WM 6 0 0 _ 108 [(0, .ref (ad 100)), (1, .int x1), (2, .int x2), (3, .int x3), (4, .int z_.1), (5, .int x5)] [] ad z_.2) (fun z_ x_ hz k1 k2 => w_M_fewest_L75 C0 hr N x1 x2 x3 z_.1 x5 z_.2 hz k1 k2) _ _ _ z75 ?_
    try dsimp only
    refine g_aload_n C0 0 d_M_fewest_108 rfl rfl ?_
    refine g_iload_n C0 2 d_M_fewest_109 rfl rfl ?_
    refine g_iload C0 4 d_M_fewest_110 rfl ?_
    refine g_iconst C0 (v := 4) d_M_fewest_112 (by decide) ?_
    refine g_idiv C0 d_M_fewest_113 (by decide) ?_
    refine g_iload C0 4 d_M_fewest_114 rfl ?_
    refine g_iconst C0 (v := 4) d_M_fewest_116 (by decide) ?_
    refine g_irem C0 d_M_fewest_117 (by decide) ?_
    obtain ⟨v118, h118, z118, hE⟩ := bd2_some hE
    refine g_calli C0 nd_M [100, 101, 102, 103, 104, 105, 106, 107, 108, 109, 110, 111, 112, 113, 114, 115] rfl (sbW_self WM) (runV C0 (m_M_after l K ad t75.2 N x2 (t75.1 / 4) (rm32 t75.1 4) z118) 3 rfl ⟨t_1398, t_1400, t_69, t_97, t_1401⟩ cd_M_after (by decide) 0 rfl rfl (sbW_self WM) nd_M rfl rfl (Nat.le_of_ble_eq_true rfl) d_M_fewest_118) ?_
    refine g_mx [100, 101, 102, 103, 104, 105, 106, 107, 108, 109, 110, 111, 112, 113, 114, 115] rfl ?_
    refine g_istore_n C0 [(2, .int v118), (0, .ref (ad 100)), (1, .int x1), (3, .int x3), (4, .int t75.1), (5, .int x5)] d_M_fewest_121 rfl (by decide) rfl ?_
    obtain ⟨v122, e122, hE⟩ := nm_some hE
    refine g_iinc C0 5 [(5, .int v122), (2, .int v118), (0, .ref (ad 100)), (1, .int x1), (3, .int x3), (4, .int t75.1)] d_M_fewest_122 rfl (by rw [e122]; rfl) (by decide) rfl ?_
    refine g_goto C0 (tgt := 66) d_M_fewest_125 (by decide) ?_
    refine g_sub [2, 3, 1, 4, 5, 0] (L' := [(0, .ref (ad 100)), (1, .int x1), (2, .int v118), (3, .int x3), (4, .int t75.1), (5, .int v122)]) rfl ?_
    exact hk1 _ (Option.some.inj hE).symm
theorem w_M_fewest {p : Program} {l : Launch} {e : Env} {s : State} {m : MethodId} {args : Array Value} {below : List Frame} {meth : Method} {c : Code} {K : KT} {A : Nat → Prop} (C0 : Cx p s m args meth c prog_13_method_56_code "CanoeSidesModel" 6 K A) (hr : meth.sig.returnType = (Option.some Jvm.ClassFile.FieldType.int)) {ad : Nat → Nat} (N : Nat) (a0 : Int32) (h : Hp) {res : Int32 × Hp} (hE : K_M_fewest N a0 h = some res) : G p l e rm_M_fewest s m args below meth c K A WM 6 0 0 (QI s args below K A WM 0 0 ad res.1 res.2) 0 [(0, .ref (ad 100)), (1, .int a0)] [] ad h := by
  unfold K_M_fewest at hE
  refine g_aload_n C0 0 d_M_fewest_0 rfl rfl ?_
  obtain ⟨v1, z1, hE⟩ := bd_some hE
  refine g_calliP C0 nd_M [100, 101, 102, 103, 104, 105, 106, 107, 108, 109, 110, 111, 112, 113, 114, 115] rfl (sbW_self WM) (runV C0 (m_M_isNone l K ad h z1) 0 rfl ⟨t_1264, t_1266, t_51, t_97, t_1267⟩ cd_M_isNone (by decide) 0 rfl rfl (sbW_self WM) nd_M rfl rfl (Nat.le_of_ble_eq_true rfl) d_M_fewest_1) ?_
  have hB := ite_some hE
  refine g_if_eq C0 (tgt := 10) d_M_fewest_4 (by decide) (fun c_ => ?_) (fun c_ => ?_)
  · replace hE := hB.1 c_
    refine g_aload_n C0 0 d_M_fewest_10 rfl rfl ?_
    refine g_iconst C0 (v := 0) d_M_fewest_11 (by decide) ?_
    refine g_iconst C0 (v := 0) d_M_fewest_12 (by decide) ?_
    obtain ⟨h13, z13, hE⟩ := bd_some hE
    refine g_callv C0 nd_M [100, 101, 102, 103, 104, 105, 106, 107, 108, 109, 110, 111, 112, 113, 114, 115] rfl (sbW_self WM) (runV C0 (m_M_findFarBy l K ad h N 0 0 z13) 2 rfl ⟨t_1373, t_1375, t_63, t_97, t_1376⟩ cd_M_findFarBy (by decide) 0 rfl rfl (sbW_self WM) nd_M rfl rfl (Nat.le_of_ble_eq_true rfl) d_M_fewest_13) ?_
    refine g_mx [100, 101, 102, 103, 104, 105, 106, 107, 108, 109, 110, 111, 112, 113, 114, 115] rfl ?_
    refine g_aload_n C0 0 d_M_fewest_16 rfl rfl ?_
    obtain ⟨v17, z17, hE⟩ := bd_some hE
    refine g_calliP C0 nd_M [100, 101, 102, 103, 104, 105, 106, 107, 108, 109, 110, 111, 112, 113, 114, 115] rfl (sbW_self WM) (runV C0 (m_M_stateNow l K ad h13 z17) 0 rfl ⟨t_1406, t_1408, t_71, t_97, t_1409⟩ cd_M_stateNow (by decide) 0 rfl rfl (sbW_self WM) nd_M rfl rfl (Nat.le_of_ble_eq_true rfl) d_M_fewest_17) ?_
    refine g_istore_n C0 [(2, .int v17), (0, .ref (ad 100)), (1, .int a0)] d_M_fewest_20 rfl (by decide) rfl ?_
    refine g_aload_n C0 1 d_M_fewest_21 rfl rfl ?_
    refine g_getr C0 CK_11 17 (by decide) t_1107 0 rfl rfl d_M_fewest_22 ?_
    refine g_iload_n C0 0 d_M_fewest_25 rfl rfl ?_
    obtain ⟨q26, v26, e26, hE⟩ := gA_some hE
    refine g_iald C0 8 rfl q26 d_M_fewest_26 ?_
    refine g_top e26 ?_
    refine g_istore_n C0 [(3, .int v26), (2, .int v17), (0, .ref (ad 100)), (1, .int a0)] d_M_fewest_27 rfl (by decide) rfl ?_
    refine g_iload_n C0 0 d_M_fewest_28 rfl rfl ?_
    refine g_ldc C0 (v := 99999999) t_1393 d_M_fewest_29 ?_
    have hB := ite_some hE
    refine g_icmp_eq C0 (tgt := 43) d_M_fewest_31 (by decide) (fun c_ => ?_) (fun c_ => ?_)
    · replace hE := hB.1 c_
      refine g_sub [3, 0] (L' := [(1, .int a0), (3, .int v26)]) rfl ?_
      exact w_M_fewest_J43 C0 hr N a0 v26 h13 hE
    · replace hE := hB.2 c_
      refine g_iload_n C0 3 d_M_fewest_34 rfl rfl ?_
      have hB := ite_some hE
      refine g_if_lt C0 (tgt := 43) d_M_fewest_35 (by decide) (fun c_ => ?_) (fun c_ => ?_)
      · replace hE := hB.1 c_
        refine g_sub [3, 0] (L' := [(1, .int a0), (3, .int v26)]) rfl ?_
        exact w_M_fewest_J43 C0 hr N a0 v26 h13 hE
      · replace hE := hB.2 c_
        refine g_iload_n C0 3 d_M_fewest_38 rfl rfl ?_
        refine g_iload_n C0 0 d_M_fewest_39 rfl rfl ?_
        have hB := ite_some hE
        refine g_icmp_lt C0 (tgt := 60) d_M_fewest_40 (by decide) (fun c_ => ?_) (fun c_ => ?_)
        · replace hE := hB.1 c_
          refine g_iconst C0 (v := 0) d_M_fewest_60 (by decide) ?_
          refine g_istore C0 [(4, .int 0), (3, .int v26), (2, .int v17), (0, .ref (ad 100)), (1, .int a0)] d_M_fewest_61 (by decide) rfl ?_
          refine g_iconst C0 (v := 0) d_M_fewest_63 (by decide) ?_
          refine g_istore C0 [(5, .int 0), (4, .int 0), (3, .int v26), (2, .int v17), (0, .ref (ad 100)), (1, .int a0)] d_M_fewest_64 (by decide) rfl ?_
          refine g_sub [4, 5, 3, 2, 1, 0] (L' := [(0, .ref (ad 100)), (1, .int a0), (2, .int v17), (3, .int v26), (4, .int 0), (5, .int 0)]) rfl ?_
          obtain ⟨t66, z66, hE⟩ := bd_some hE
          refine loopG (fun z_ : Int32 × Int32 × Int32 × Hp => K_M_fewest_L66 N a0 z_.1 v26 z_.2.1 z_.2.2.1 z_.2.2.2) (fun z_ : Int32 × Int32 × Int32 × Hp => G p l e rm_M_fewest s m args below meth c K A WM 6 0 0 _ 66 [(0, .ref (ad 100)), (1, .int a0), (2, .int z_.1), (3, .int v26), (4, .int z_.2.1), (5, .int z_.2.2.1)] [] ad z_.2.2.2) (fun z_ : Int32 × Hp => G p l e rm_M_fewest s m args below meth c K A WM 6 0 0 _ 128 [(4, .int z_.1)] [] ad z_.2) (fun z_ x_ hz k1 k2 => w_M_fewest_L66 C0 hr N a0 z_.1 v26 z_.2.1 z_.2.2.1 z_.2.2.2 hz k1 k2) _ _ _ z66 ?_
          try dsimp only
          refine g_iload C0 0 d_M_fewest_128 rfl ?_
          obtain rfl := Option.some.inj hE
          exact g_iret C0 hr d_M_fewest_130
        · replace hE := hB.2 c_
          refine g_sub [3, 0] (L' := [(1, .int a0), (3, .int v26)]) rfl ?_
          exact w_M_fewest_J43 C0 hr N a0 v26 h13 hE
  · replace hE := hB.2 c_
    refine g_ldc C0 (v := (-1000000003)) t_1296 d_M_fewest_7 ?_
    obtain rfl := Option.some.inj hE
    exact g_iret C0 hr d_M_fewest_9
theorem m_M_fewest (l : Launch) (K : KT) (ad : Nat → Nat) (h : Hp) (N : Nat) (a0 : Int32) {res : Int32 × Hp} (hE : K_M_fewest N a0 h = some res) : ConI l y_M_fewest prog_13_method_56_code 6 (Option.some Jvm.ClassFile.FieldType.int) rm_M_fewest K WM ad h [.ref (ad 100), .int a0] res.1 res.2 := fun sz =>
  con_start [(0, .ref (ad 100)), (1, .int a0)] (by decide +kernel) rfl (Nat.le_of_ble_eq_true rfl) (fun p e s m args below meth c C0 hr hnm hsz => w_M_fewest C0 hr N a0 h hE)
abbrev y_M_alone : MethodName := ⟨"CanoeSidesModel", "alone", "()I"⟩
abbrev rm_M_alone : Room := { frames := 9, cells := 0, slots := 0, locals := 218 }
theorem cd_M_alone : cwd y_M_alone 0 := by decide +kernel
theorem d_M_alone_0 : decode prog_13_method_57_code 0 = .ok (.aload_n 0, 1) := by decide +kernel
theorem d_M_alone_1 : decode prog_13_method_57_code 1 = .ok (.invokevirtual 143, 3) := by decide +kernel
theorem d_M_alone_4 : decode prog_13_method_57_code 4 = .ok (.ifCond .eq 6, 3) := by decide +kernel
theorem d_M_alone_7 : decode prog_13_method_57_code 7 = .ok (.ldc 215, 2) := by decide +kernel
theorem d_M_alone_9 : decode prog_13_method_57_code 9 = .ok (.ireturn, 1) := by decide +kernel
theorem d_M_alone_10 : decode prog_13_method_57_code 10 = .ok (.aload_n 0, 1) := by decide +kernel
theorem d_M_alone_11 : decode prog_13_method_57_code 11 = .ok (.iconst 0, 1) := by decide +kernel
theorem d_M_alone_12 : decode prog_13_method_57_code 12 = .ok (.iconst 3, 1) := by decide +kernel
theorem d_M_alone_13 : decode prog_13_method_57_code 13 = .ok (.invokevirtual 262, 3) := by decide +kernel
theorem d_M_alone_16 : decode prog_13_method_57_code 16 = .ok (.aload_n 0, 1) := by decide +kernel
theorem d_M_alone_17 : decode prog_13_method_57_code 17 = .ok (.getfield 36, 3) := by decide +kernel
theorem d_M_alone_20 : decode prog_13_method_57_code 20 = .ok (.aload_n 0, 1) := by decide +kernel
theorem d_M_alone_21 : decode prog_13_method_57_code 21 = .ok (.invokevirtual 265, 3) := by decide +kernel
theorem d_M_alone_24 : decode prog_13_method_57_code 24 = .ok (.iaload, 1) := by decide +kernel
theorem d_M_alone_25 : decode prog_13_method_57_code 25 = .ok (.istore_n 1, 1) := by decide +kernel
theorem d_M_alone_26 : decode prog_13_method_57_code 26 = .ok (.iload_n 1, 1) := by decide +kernel
theorem d_M_alone_27 : decode prog_13_method_57_code 27 = .ok (.ldc 240, 2) := by decide +kernel
theorem d_M_alone_29 : decode prog_13_method_57_code 29 = .ok (.if_icmp .ne 7, 3) := by decide +kernel
theorem d_M_alone_32 : decode prog_13_method_57_code 32 = .ok (.iconst (-1), 1) := by decide +kernel
theorem d_M_alone_33 : decode prog_13_method_57_code 33 = .ok (.goto 4, 3) := by decide +kernel
theorem d_M_alone_36 : decode prog_13_method_57_code 36 = .ok (.iload_n 1, 1) := by decide +kernel
theorem d_M_alone_37 : decode prog_13_method_57_code 37 = .ok (.ireturn, 1) := by decide +kernel
theorem w_M_alone {p : Program} {l : Launch} {e : Env} {s : State} {m : MethodId} {args : Array Value} {below : List Frame} {meth : Method} {c : Code} {K : KT} {A : Nat → Prop} (C0 : Cx p s m args meth c prog_13_method_57_code "CanoeSidesModel" 2 K A) (hr : meth.sig.returnType = (Option.some Jvm.ClassFile.FieldType.int)) {ad : Nat → Nat} (N : Nat) (h : Hp) {res : Int32 × Hp} (hE : K_M_alone N h = some res) : G p l e rm_M_alone s m args below meth c K A WM 2 0 0 (QI s args below K A WM 0 0 ad res.1 res.2) 0 [(0, .ref (ad 100))] [] ad h := by
  unfold K_M_alone at hE
  refine g_aload_n C0 0 d_M_alone_0 rfl rfl ?_
  obtain ⟨v1, z1, hE⟩ := bd_some hE
  refine g_calliP C0 nd_M [100, 101, 102, 103, 104, 105, 106, 107, 108, 109, 110, 111, 112, 113, 114, 115] rfl (sbW_self WM) (runV C0 (m_M_isNone l K ad h z1) 0 rfl ⟨t_1264, t_1266, t_51, t_97, t_1267⟩ cd_M_isNone (by decide) 0 rfl rfl (sbW_self WM) nd_M rfl rfl (Nat.le_of_ble_eq_true rfl) d_M_alone_1) ?_
  have hB := ite_some hE
  refine g_if_eq C0 (tgt := 10) d_M_alone_4 (by decide) (fun c_ => ?_) (fun c_ => ?_)
  · replace hE := hB.1 c_
    refine g_aload_n C0 0 d_M_alone_10 rfl rfl ?_
    refine g_iconst C0 (v := 0) d_M_alone_11 (by decide) ?_
    refine g_iconst C0 (v := 3) d_M_alone_12 (by decide) ?_
    obtain ⟨h13, z13, hE⟩ := bd_some hE
    refine g_callv C0 nd_M [100, 101, 102, 103, 104, 105, 106, 107, 108, 109, 110, 111, 112, 113, 114, 115] rfl (sbW_self WM) (runV C0 (m_M_findFarBy l K ad h N 0 3 z13) 2 rfl ⟨t_1373, t_1375, t_63, t_97, t_1376⟩ cd_M_findFarBy (by decide) 0 rfl rfl (sbW_self WM) nd_M rfl rfl (Nat.le_of_ble_eq_true rfl) d_M_alone_13) ?_
    refine g_mx [100, 101, 102, 103, 104, 105, 106, 107, 108, 109, 110, 111, 112, 113, 114, 115] rfl ?_
    refine g_aload_n C0 0 d_M_alone_16 rfl rfl ?_
    refine g_getr C0 CK_11 17 (by decide) t_1107 0 rfl rfl d_M_alone_17 ?_
    refine g_aload_n C0 0 d_M_alone_20 rfl rfl ?_
    obtain ⟨v21, z21, hE⟩ := bd_some hE
    refine g_calliP C0 nd_M [100, 101, 102, 103, 104, 105, 106, 107, 108, 109, 110, 111, 112, 113, 114, 115] rfl (sbW_self WM) (runV C0 (m_M_stateNow l K ad h13 z21) 0 rfl ⟨t_1406, t_1408, t_71, t_97, t_1409⟩ cd_M_stateNow (by decide) 0 rfl rfl (sbW_self WM) nd_M rfl rfl (Nat.le_of_ble_eq_true rfl) d_M_alone_21) ?_
    obtain ⟨q24, v24, e24, hE⟩ := gA_some hE
    refine g_iald C0 8 rfl q24 d_M_alone_24 ?_
    refine g_top e24 ?_
    refine g_istore_n C0 [(1, .int v24), (0, .ref (ad 100))] d_M_alone_25 rfl (by decide) rfl ?_
    refine g_iload_n C0 0 d_M_alone_26 rfl rfl ?_
    refine g_ldc C0 (v := 99999999) t_1393 d_M_alone_27 ?_
    have hB := ite_some hE
    refine g_icmp_ne C0 (tgt := 36) d_M_alone_29 (by decide) (fun c_ => ?_) (fun c_ => ?_)
    · replace hE := hB.2 c_
      refine g_iload_n C0 0 d_M_alone_36 rfl rfl ?_
      obtain rfl := Option.some.inj hE
      exact g_iret C0 hr d_M_alone_37
    · replace hE := hB.1 c_
      refine g_iconst C0 (v := (-1)) d_M_alone_32 (by decide) ?_
      refine g_goto C0 (tgt := 37) d_M_alone_33 (by decide) ?_
      obtain rfl := Option.some.inj hE
      exact g_iret C0 hr d_M_alone_37
  · replace hE := hB.2 c_
    refine g_ldc C0 (v := (-1000000003)) t_1296 d_M_alone_7 ?_
    obtain rfl := Option.some.inj hE
    exact g_iret C0 hr d_M_alone_9
theorem m_M_alone (l : Launch) (K : KT) (ad : Nat → Nat) (h : Hp) (N : Nat) {res : Int32 × Hp} (hE : K_M_alone N h = some res) : ConI l y_M_alone prog_13_method_57_code 2 (Option.some Jvm.ClassFile.FieldType.int) rm_M_alone K WM ad h [.ref (ad 100)] res.1 res.2 := fun sz =>
  con_start [(0, .ref (ad 100))] (by decide +kernel) rfl (Nat.le_of_ble_eq_true rfl) (fun p e s m args below meth c C0 hr hnm hsz => w_M_alone C0 hr N h hE)
abbrev y_M_third : MethodName := ⟨"CanoeSidesModel", "third", "(I)I"⟩
abbrev rm_M_third : Room := { frames := 9, cells := 0, slots := 0, locals := 218 }
theorem cd_M_third : cwd y_M_third 1 := by decide +kernel
theorem d_M_third_0 : decode prog_13_method_58_code 0 = .ok (.iload_n 1, 1) := by decide +kernel
theorem d_M_third_1 : decode prog_13_method_58_code 1 = .ok (.i2l, 1) := by decide +kernel
theorem d_M_third_2 : decode prog_13_method_58_code 2 = .ok (.lconst 1, 1) := by decide +kernel
theorem d_M_third_3 : decode prog_13_method_58_code 3 = .ok (.ldc2_w 268, 3) := by decide +kernel
theorem d_M_third_6 : decode prog_13_method_58_code 6 = .ok (.invokestatic 67, 3) := by decide +kernel
theorem d_M_third_9 : decode prog_13_method_58_code 9 = .ok (.ifCond .ne 6, 3) := by decide +kernel
theorem d_M_third_12 : decode prog_13_method_58_code 12 = .ok (.ldc 71, 2) := by decide +kernel
theorem d_M_third_14 : decode prog_13_method_58_code 14 = .ok (.ireturn, 1) := by decide +kernel
theorem d_M_third_15 : decode prog_13_method_58_code 15 = .ok (.aload_n 0, 1) := by decide +kernel
theorem d_M_third_16 : decode prog_13_method_58_code 16 = .ok (.invokevirtual 143, 3) := by decide +kernel
theorem d_M_third_19 : decode prog_13_method_58_code 19 = .ok (.ifCond .eq 6, 3) := by decide +kernel
theorem d_M_third_22 : decode prog_13_method_58_code 22 = .ok (.ldc 215, 2) := by decide +kernel
theorem d_M_third_24 : decode prog_13_method_58_code 24 = .ok (.ireturn, 1) := by decide +kernel
theorem d_M_third_25 : decode prog_13_method_58_code 25 = .ok (.aload_n 0, 1) := by decide +kernel
theorem d_M_third_26 : decode prog_13_method_58_code 26 = .ok (.iload_n 1, 1) := by decide +kernel
theorem d_M_third_27 : decode prog_13_method_58_code 27 = .ok (.iconst 0, 1) := by decide +kernel
theorem d_M_third_28 : decode prog_13_method_58_code 28 = .ok (.invokevirtual 262, 3) := by decide +kernel
theorem d_M_third_31 : decode prog_13_method_58_code 31 = .ok (.aload_n 0, 1) := by decide +kernel
theorem d_M_third_32 : decode prog_13_method_58_code 32 = .ok (.iconst 0, 1) := by decide +kernel
theorem d_M_third_33 : decode prog_13_method_58_code 33 = .ok (.putfield 166, 3) := by decide +kernel
theorem d_M_third_36 : decode prog_13_method_58_code 36 = .ok (.aload_n 0, 1) := by decide +kernel
theorem d_M_third_37 : decode prog_13_method_58_code 37 = .ok (.getfield 36, 3) := by decide +kernel
theorem d_M_third_40 : decode prog_13_method_58_code 40 = .ok (.aload_n 0, 1) := by decide +kernel
theorem d_M_third_41 : decode prog_13_method_58_code 41 = .ok (.invokevirtual 265, 3) := by decide +kernel
theorem d_M_third_44 : decode prog_13_method_58_code 44 = .ok (.iaload, 1) := by decide +kernel
theorem d_M_third_45 : decode prog_13_method_58_code 45 = .ok (.istore_n 2, 1) := by decide +kernel
theorem d_M_third_46 : decode prog_13_method_58_code 46 = .ok (.iload_n 2, 1) := by decide +kernel
theorem d_M_third_47 : decode prog_13_method_58_code 47 = .ok (.ldc 240, 2) := by decide +kernel
theorem d_M_third_49 : decode prog_13_method_58_code 49 = .ok (.if_icmp .ne 7, 3) := by decide +kernel
theorem d_M_third_52 : decode prog_13_method_58_code 52 = .ok (.iconst (-1), 1) := by decide +kernel
theorem d_M_third_53 : decode prog_13_method_58_code 53 = .ok (.goto 4, 3) := by decide +kernel
theorem d_M_third_56 : decode prog_13_method_58_code 56 = .ok (.iload_n 2, 1) := by decide +kernel
theorem d_M_third_57 : decode prog_13_method_58_code 57 = .ok (.ireturn, 1) := by decide +kernel
theorem w_M_third {p : Program} {l : Launch} {e : Env} {s : State} {m : MethodId} {args : Array Value} {below : List Frame} {meth : Method} {c : Code} {K : KT} {A : Nat → Prop} (C0 : Cx p s m args meth c prog_13_method_58_code "CanoeSidesModel" 3 K A) (hr : meth.sig.returnType = (Option.some Jvm.ClassFile.FieldType.int)) {ad : Nat → Nat} (N : Nat) (a0 : Int32) (h : Hp) {res : Int32 × Hp} (hE : K_M_third N a0 h = some res) : G p l e rm_M_third s m args below meth c K A WM 3 0 0 (QI s args below K A WM 0 0 ad res.1 res.2) 0 [(0, .ref (ad 100)), (1, .int a0)] [] ad h := by
  unfold K_M_third at hE
  refine g_iload_n C0 1 d_M_third_0 rfl rfl ?_
  refine g_i2l C0 d_M_third_1 ?_
  refine g_lconst C0 (v := 1) d_M_third_2 (by decide) ?_
  refine g_ldc2 C0 (v := 9) t_1418 d_M_third_3 ?_
  obtain ⟨v6, z6, hE⟩ := bd_some hE
  refine g_calliP C0 nd_M [] rfl (sb_E_M) (runS C0 (m_M_in l K ad h (Int32.toInt64 a0) 1 9 z6) 3 ⟨t_1196, t_1197, t_97, t_1198⟩ cd_M_in (by decide) (sb_E_M) nd_E rfl rfl (Nat.le_of_ble_eq_true rfl) d_M_third_6) ?_
  have hB := ite_some hE
  refine g_if_ne C0 (tgt := 15) d_M_third_9 (by decide) (fun c_ => ?_) (fun c_ => ?_)
  · replace hE := hB.2 c_
    refine g_aload_n C0 0 d_M_third_15 rfl rfl ?_
    obtain ⟨v16, z16, hE⟩ := bd_some hE
    refine g_calliP C0 nd_M [100, 101, 102, 103, 104, 105, 106, 107, 108, 109, 110, 111, 112, 113, 114, 115] rfl (sbW_self WM) (runV C0 (m_M_isNone l K ad h z16) 0 rfl ⟨t_1264, t_1266, t_51, t_97, t_1267⟩ cd_M_isNone (by decide) 0 rfl rfl (sbW_self WM) nd_M rfl rfl (Nat.le_of_ble_eq_true rfl) d_M_third_16) ?_
    have hB := ite_some hE
    refine g_if_eq C0 (tgt := 25) d_M_third_19 (by decide) (fun c_ => ?_) (fun c_ => ?_)
    · replace hE := hB.1 c_
      refine g_aload_n C0 0 d_M_third_25 rfl rfl ?_
      refine g_iload_n C0 1 d_M_third_26 rfl rfl ?_
      refine g_iconst C0 (v := 0) d_M_third_27 (by decide) ?_
      obtain ⟨h28, z28, hE⟩ := bd_some hE
      refine g_callv C0 nd_M [100, 101, 102, 103, 104, 105, 106, 107, 108, 109, 110, 111, 112, 113, 114, 115] rfl (sbW_self WM) (runV C0 (m_M_findFarBy l K ad h N a0 0 z28) 2 rfl ⟨t_1373, t_1375, t_63, t_97, t_1376⟩ cd_M_findFarBy (by decide) 0 rfl rfl (sbW_self WM) nd_M rfl rfl (Nat.le_of_ble_eq_true rfl) d_M_third_28) ?_
      refine g_mx [100, 101, 102, 103, 104, 105, 106, 107, 108, 109, 110, 111, 112, 113, 114, 115] rfl ?_
      refine g_aload_n C0 0 d_M_third_31 rfl rfl ?_
      refine g_iconst C0 (v := 0) d_M_third_32 (by decide) ?_
      obtain ⟨h33, e33, hE⟩ := nm_some hE
      refine g_puti C0 CK_11 CT_11 12 (by decide) t_1102 rfl (by decide +kernel) nd_M 0 rfl rfl d_M_third_33 ?_
      refine g_heap e33 ?_
      refine g_aload_n C0 0 d_M_third_36 rfl rfl ?_
      refine g_getr C0 CK_11 17 (by decide) t_1107 0 rfl rfl d_M_third_37 ?_
      refine g_aload_n C0 0 d_M_third_40 rfl rfl ?_
      obtain ⟨v41, z41, hE⟩ := bd_some hE
      refine g_calliP C0 nd_M [100, 101, 102, 103, 104, 105, 106, 107, 108, 109, 110, 111, 112, 113, 114, 115] rfl (sbW_self WM) (runV C0 (m_M_stateNow l K ad h33 z41) 0 rfl ⟨t_1406, t_1408, t_71, t_97, t_1409⟩ cd_M_stateNow (by decide) 0 rfl rfl (sbW_self WM) nd_M rfl rfl (Nat.le_of_ble_eq_true rfl) d_M_third_41) ?_
      obtain ⟨q44, v44, e44, hE⟩ := gA_some hE
      refine g_iald C0 8 rfl q44 d_M_third_44 ?_
      refine g_top e44 ?_
      refine g_istore_n C0 [(2, .int v44), (0, .ref (ad 100)), (1, .int a0)] d_M_third_45 rfl (by decide) rfl ?_
      refine g_iload_n C0 0 d_M_third_46 rfl rfl ?_
      refine g_ldc C0 (v := 99999999) t_1393 d_M_third_47 ?_
      have hB := ite_some hE
      refine g_icmp_ne C0 (tgt := 56) d_M_third_49 (by decide) (fun c_ => ?_) (fun c_ => ?_)
      · replace hE := hB.2 c_
        refine g_iload_n C0 0 d_M_third_56 rfl rfl ?_
        obtain rfl := Option.some.inj hE
        exact g_iret C0 hr d_M_third_57
      · replace hE := hB.1 c_
        refine g_iconst C0 (v := (-1)) d_M_third_52 (by decide) ?_
        refine g_goto C0 (tgt := 57) d_M_third_53 (by decide) ?_
        obtain rfl := Option.some.inj hE
        exact g_iret C0 hr d_M_third_57
    · replace hE := hB.2 c_
      refine g_ldc C0 (v := (-1000000003)) t_1296 d_M_third_22 ?_
      obtain rfl := Option.some.inj hE
      exact g_iret C0 hr d_M_third_24
  · replace hE := hB.1 c_
    refine g_ldc C0 (v := (-1000000002)) t_1199 d_M_third_12 ?_
    obtain rfl := Option.some.inj hE
    exact g_iret C0 hr d_M_third_14
theorem m_M_third (l : Launch) (K : KT) (ad : Nat → Nat) (h : Hp) (N : Nat) (a0 : Int32) {res : Int32 × Hp} (hE : K_M_third N a0 h = some res) : ConI l y_M_third prog_13_method_58_code 3 (Option.some Jvm.ClassFile.FieldType.int) rm_M_third K WM ad h [.ref (ad 100), .int a0] res.1 res.2 := fun sz =>
  con_start [(0, .ref (ad 100)), (1, .int a0)] (by decide +kernel) rfl (Nat.le_of_ble_eq_true rfl) (fun p e s m args below meth c C0 hr hnm hsz => w_M_third C0 hr N a0 h hE)
abbrev y_M_callOn : MethodName := ⟨"CanoeSidesModel", "callOn", "()V"⟩
abbrev rm_M_callOn : Room := { frames := 6, cells := 0, slots := 0, locals := 147 }
theorem cd_M_callOn : cwd y_M_callOn 0 := by decide +kernel
theorem d_M_callOn_0 : decode prog_13_method_59_code 0 = .ok (.iconst 0, 1) := by decide +kernel
theorem d_M_callOn_1 : decode prog_13_method_59_code 1 = .ok (.istore_n 1, 1) := by decide +kernel
theorem d_M_callOn_2 : decode prog_13_method_59_code 2 = .ok (.iload_n 1, 1) := by decide +kernel
theorem d_M_callOn_3 : decode prog_13_method_59_code 3 = .ok (.bipush 16, 2) := by decide +kernel
theorem d_M_callOn_5 : decode prog_13_method_59_code 5 = .ok (.aload_n 0, 1) := by decide +kernel
theorem d_M_callOn_6 : decode prog_13_method_59_code 6 = .ok (.invokevirtual 250, 3) := by decide +kernel
theorem d_M_callOn_9 : decode prog_13_method_59_code 9 = .ok (.imul, 1) := by decide +kernel
theorem d_M_callOn_10 : decode prog_13_method_59_code 10 = .ok (.if_icmp .ge 17, 3) := by decide +kernel
theorem d_M_callOn_13 : decode prog_13_method_59_code 13 = .ok (.aload_n 0, 1) := by decide +kernel
theorem d_M_callOn_14 : decode prog_13_method_59_code 14 = .ok (.getfield 43, 3) := by decide +kernel
theorem d_M_callOn_17 : decode prog_13_method_59_code 17 = .ok (.iload_n 1, 1) := by decide +kernel
theorem d_M_callOn_18 : decode prog_13_method_59_code 18 = .ok (.ldc 240, 2) := by decide +kernel
theorem d_M_callOn_20 : decode prog_13_method_59_code 20 = .ok (.iastore, 1) := by decide +kernel
theorem d_M_callOn_21 : decode prog_13_method_59_code 21 = .ok (.iinc 1 1, 3) := by decide +kernel
theorem d_M_callOn_24 : decode prog_13_method_59_code 24 = .ok (.goto (-22), 3) := by decide +kernel
theorem d_M_callOn_27 : decode prog_13_method_59_code 27 = .ok (.iconst 0, 1) := by decide +kernel
theorem d_M_callOn_28 : decode prog_13_method_59_code 28 = .ok (.istore_n 1, 1) := by decide +kernel
theorem d_M_callOn_29 : decode prog_13_method_59_code 29 = .ok (.iload_n 1, 1) := by decide +kernel
theorem d_M_callOn_30 : decode prog_13_method_59_code 30 = .ok (.aload_n 0, 1) := by decide +kernel
theorem d_M_callOn_31 : decode prog_13_method_59_code 31 = .ok (.invokevirtual 250, 3) := by decide +kernel
theorem d_M_callOn_34 : decode prog_13_method_59_code 34 = .ok (.if_icmp .ge 162, 3) := by decide +kernel
theorem d_M_callOn_37 : decode prog_13_method_59_code 37 = .ok (.ldc 240, 2) := by decide +kernel
theorem d_M_callOn_39 : decode prog_13_method_59_code 39 = .ok (.istore_n 2, 1) := by decide +kernel
theorem d_M_callOn_40 : decode prog_13_method_59_code 40 = .ok (.iconst 0, 1) := by decide +kernel
theorem d_M_callOn_41 : decode prog_13_method_59_code 41 = .ok (.istore_n 3, 1) := by decide +kernel
theorem d_M_callOn_42 : decode prog_13_method_59_code 42 = .ok (.iload_n 3, 1) := by decide +kernel
theorem d_M_callOn_43 : decode prog_13_method_59_code 43 = .ok (.bipush 16, 2) := by decide +kernel
theorem d_M_callOn_45 : decode prog_13_method_59_code 45 = .ok (.if_icmp .ge 40, 3) := by decide +kernel
theorem d_M_callOn_48 : decode prog_13_method_59_code 48 = .ok (.aload_n 0, 1) := by decide +kernel
theorem d_M_callOn_49 : decode prog_13_method_59_code 49 = .ok (.getfield 40, 3) := by decide +kernel
theorem d_M_callOn_52 : decode prog_13_method_59_code 52 = .ok (.bipush 16, 2) := by decide +kernel
theorem d_M_callOn_54 : decode prog_13_method_59_code 54 = .ok (.iload_n 1, 1) := by decide +kernel
theorem d_M_callOn_55 : decode prog_13_method_59_code 55 = .ok (.imul, 1) := by decide +kernel
theorem d_M_callOn_56 : decode prog_13_method_59_code 56 = .ok (.iload_n 3, 1) := by decide +kernel
theorem d_M_callOn_57 : decode prog_13_method_59_code 57 = .ok (.iadd, 1) := by decide +kernel
theorem d_M_callOn_58 : decode prog_13_method_59_code 58 = .ok (.iaload, 1) := by decide +kernel
theorem d_M_callOn_59 : decode prog_13_method_59_code 59 = .ok (.iload_n 2, 1) := by decide +kernel
theorem d_M_callOn_60 : decode prog_13_method_59_code 60 = .ok (.if_icmp .ge 17, 3) := by decide +kernel
theorem d_M_callOn_63 : decode prog_13_method_59_code 63 = .ok (.aload_n 0, 1) := by decide +kernel
theorem d_M_callOn_64 : decode prog_13_method_59_code 64 = .ok (.getfield 40, 3) := by decide +kernel
theorem d_M_callOn_67 : decode prog_13_method_59_code 67 = .ok (.bipush 16, 2) := by decide +kernel
theorem d_M_callOn_69 : decode prog_13_method_59_code 69 = .ok (.iload_n 1, 1) := by decide +kernel
theorem d_M_callOn_70 : decode prog_13_method_59_code 70 = .ok (.imul, 1) := by decide +kernel
theorem d_M_callOn_71 : decode prog_13_method_59_code 71 = .ok (.iload_n 3, 1) := by decide +kernel
theorem d_M_callOn_72 : decode prog_13_method_59_code 72 = .ok (.iadd, 1) := by decide +kernel
theorem d_M_callOn_73 : decode prog_13_method_59_code 73 = .ok (.iaload, 1) := by decide +kernel
theorem d_M_callOn_74 : decode prog_13_method_59_code 74 = .ok (.goto 4, 3) := by decide +kernel
theorem d_M_callOn_77 : decode prog_13_method_59_code 77 = .ok (.iload_n 2, 1) := by decide +kernel
theorem d_M_callOn_78 : decode prog_13_method_59_code 78 = .ok (.istore_n 2, 1) := by decide +kernel
theorem d_M_callOn_79 : decode prog_13_method_59_code 79 = .ok (.iinc 3 1, 3) := by decide +kernel
theorem d_M_callOn_82 : decode prog_13_method_59_code 82 = .ok (.goto (-40), 3) := by decide +kernel
theorem d_M_callOn_85 : decode prog_13_method_59_code 85 = .ok (.iconst 0, 1) := by decide +kernel
theorem d_M_callOn_86 : decode prog_13_method_59_code 86 = .ok (.istore_n 3, 1) := by decide +kernel
theorem d_M_callOn_87 : decode prog_13_method_59_code 87 = .ok (.iload_n 3, 1) := by decide +kernel
theorem d_M_callOn_88 : decode prog_13_method_59_code 88 = .ok (.bipush 16, 2) := by decide +kernel
theorem d_M_callOn_90 : decode prog_13_method_59_code 90 = .ok (.if_icmp .ge 100, 3) := by decide +kernel
theorem d_M_callOn_93 : decode prog_13_method_59_code 93 = .ok (.iload_n 2, 1) := by decide +kernel
theorem d_M_callOn_94 : decode prog_13_method_59_code 94 = .ok (.ldc 240, 2) := by decide +kernel
theorem d_M_callOn_96 : decode prog_13_method_59_code 96 = .ok (.if_icmp .ge 94, 3) := by decide +kernel
theorem d_M_callOn_99 : decode prog_13_method_59_code 99 = .ok (.aload_n 0, 1) := by decide +kernel
theorem d_M_callOn_100 : decode prog_13_method_59_code 100 = .ok (.getfield 40, 3) := by decide +kernel
theorem d_M_callOn_103 : decode prog_13_method_59_code 103 = .ok (.bipush 16, 2) := by decide +kernel
theorem d_M_callOn_105 : decode prog_13_method_59_code 105 = .ok (.iload_n 1, 1) := by decide +kernel
theorem d_M_callOn_106 : decode prog_13_method_59_code 106 = .ok (.imul, 1) := by decide +kernel
theorem d_M_callOn_107 : decode prog_13_method_59_code 107 = .ok (.iload_n 3, 1) := by decide +kernel
theorem d_M_callOn_108 : decode prog_13_method_59_code 108 = .ok (.iadd, 1) := by decide +kernel
theorem d_M_callOn_109 : decode prog_13_method_59_code 109 = .ok (.iaload, 1) := by decide +kernel
theorem d_M_callOn_110 : decode prog_13_method_59_code 110 = .ok (.iload_n 2, 1) := by decide +kernel
theorem d_M_callOn_111 : decode prog_13_method_59_code 111 = .ok (.iconst 1, 1) := by decide +kernel
theorem d_M_callOn_112 : decode prog_13_method_59_code 112 = .ok (.iadd, 1) := by decide +kernel
theorem d_M_callOn_113 : decode prog_13_method_59_code 113 = .ok (.if_icmp .ge 17, 3) := by decide +kernel
theorem d_M_callOn_116 : decode prog_13_method_59_code 116 = .ok (.aload_n 0, 1) := by decide +kernel
theorem d_M_callOn_117 : decode prog_13_method_59_code 117 = .ok (.getfield 40, 3) := by decide +kernel
theorem d_M_callOn_120 : decode prog_13_method_59_code 120 = .ok (.bipush 16, 2) := by decide +kernel
theorem d_M_callOn_122 : decode prog_13_method_59_code 122 = .ok (.iload_n 1, 1) := by decide +kernel
theorem d_M_callOn_123 : decode prog_13_method_59_code 123 = .ok (.imul, 1) := by decide +kernel
theorem d_M_callOn_124 : decode prog_13_method_59_code 124 = .ok (.iload_n 3, 1) := by decide +kernel
theorem d_M_callOn_125 : decode prog_13_method_59_code 125 = .ok (.iadd, 1) := by decide +kernel
theorem d_M_callOn_126 : decode prog_13_method_59_code 126 = .ok (.iaload, 1) := by decide +kernel
theorem d_M_callOn_127 : decode prog_13_method_59_code 127 = .ok (.goto 6, 3) := by decide +kernel
theorem d_M_callOn_130 : decode prog_13_method_59_code 130 = .ok (.iload_n 2, 1) := by decide +kernel
theorem d_M_callOn_131 : decode prog_13_method_59_code 131 = .ok (.iconst 1, 1) := by decide +kernel
theorem d_M_callOn_132 : decode prog_13_method_59_code 132 = .ok (.iadd, 1) := by decide +kernel
theorem d_M_callOn_133 : decode prog_13_method_59_code 133 = .ok (.istore 4, 2) := by decide +kernel
theorem d_M_callOn_135 : decode prog_13_method_59_code 135 = .ok (.bipush 16, 2) := by decide +kernel
theorem d_M_callOn_137 : decode prog_13_method_59_code 137 = .ok (.aload_n 0, 1) := by decide +kernel
theorem d_M_callOn_138 : decode prog_13_method_59_code 138 = .ok (.iload_n 1, 1) := by decide +kernel
theorem d_M_callOn_139 : decode prog_13_method_59_code 139 = .ok (.iload_n 3, 1) := by decide +kernel
theorem d_M_callOn_140 : decode prog_13_method_59_code 140 = .ok (.iconst 4, 1) := by decide +kernel
theorem d_M_callOn_141 : decode prog_13_method_59_code 141 = .ok (.idiv, 1) := by decide +kernel
theorem d_M_callOn_142 : decode prog_13_method_59_code 142 = .ok (.iload_n 3, 1) := by decide +kernel
theorem d_M_callOn_143 : decode prog_13_method_59_code 143 = .ok (.iconst 4, 1) := by decide +kernel
theorem d_M_callOn_144 : decode prog_13_method_59_code 144 = .ok (.irem, 1) := by decide +kernel
theorem d_M_callOn_145 : decode prog_13_method_59_code 145 = .ok (.invokevirtual 247, 3) := by decide +kernel
theorem d_M_callOn_148 : decode prog_13_method_59_code 148 = .ok (.imul, 1) := by decide +kernel
theorem d_M_callOn_149 : decode prog_13_method_59_code 149 = .ok (.iload_n 3, 1) := by decide +kernel
theorem d_M_callOn_150 : decode prog_13_method_59_code 150 = .ok (.iadd, 1) := by decide +kernel
theorem d_M_callOn_151 : decode prog_13_method_59_code 151 = .ok (.istore 5, 2) := by decide +kernel
theorem d_M_callOn_153 : decode prog_13_method_59_code 153 = .ok (.aload_n 0, 1) := by decide +kernel
theorem d_M_callOn_154 : decode prog_13_method_59_code 154 = .ok (.getfield 43, 3) := by decide +kernel
theorem d_M_callOn_157 : decode prog_13_method_59_code 157 = .ok (.iload 5, 2) := by decide +kernel
theorem d_M_callOn_159 : decode prog_13_method_59_code 159 = .ok (.iload 4, 2) := by decide +kernel
theorem d_M_callOn_161 : decode prog_13_method_59_code 161 = .ok (.aload_n 0, 1) := by decide +kernel
theorem d_M_callOn_162 : decode prog_13_method_59_code 162 = .ok (.getfield 43, 3) := by decide +kernel
theorem d_M_callOn_165 : decode prog_13_method_59_code 165 = .ok (.iload 5, 2) := by decide +kernel
theorem d_M_callOn_167 : decode prog_13_method_59_code 167 = .ok (.iaload, 1) := by decide +kernel
theorem d_M_callOn_168 : decode prog_13_method_59_code 168 = .ok (.if_icmp .ge 8, 3) := by decide +kernel
theorem d_M_callOn_171 : decode prog_13_method_59_code 171 = .ok (.iload 4, 2) := by decide +kernel
theorem d_M_callOn_173 : decode prog_13_method_59_code 173 = .ok (.goto 10, 3) := by decide +kernel
theorem d_M_callOn_176 : decode prog_13_method_59_code 176 = .ok (.aload_n 0, 1) := by decide +kernel
theorem d_M_callOn_177 : decode prog_13_method_59_code 177 = .ok (.getfield 43, 3) := by decide +kernel
theorem d_M_callOn_180 : decode prog_13_method_59_code 180 = .ok (.iload 5, 2) := by decide +kernel
theorem d_M_callOn_182 : decode prog_13_method_59_code 182 = .ok (.iaload, 1) := by decide +kernel
theorem d_M_callOn_183 : decode prog_13_method_59_code 183 = .ok (.iastore, 1) := by decide +kernel
theorem d_M_callOn_184 : decode prog_13_method_59_code 184 = .ok (.iinc 3 1, 3) := by decide +kernel
theorem d_M_callOn_187 : decode prog_13_method_59_code 187 = .ok (.goto (-100), 3) := by decide +kernel
theorem d_M_callOn_190 : decode prog_13_method_59_code 190 = .ok (.iinc 1 1, 3) := by decide +kernel
theorem d_M_callOn_193 : decode prog_13_method_59_code 193 = .ok (.goto (-164), 3) := by decide +kernel
theorem d_M_callOn_196 : decode prog_13_method_59_code 196 = .ok (.iconst 0, 1) := by decide +kernel
theorem d_M_callOn_197 : decode prog_13_method_59_code 197 = .ok (.istore_n 1, 1) := by decide +kernel
theorem d_M_callOn_198 : decode prog_13_method_59_code 198 = .ok (.iload_n 1, 1) := by decide +kernel
theorem d_M_callOn_199 : decode prog_13_method_59_code 199 = .ok (.bipush 16, 2) := by decide +kernel
theorem d_M_callOn_201 : decode prog_13_method_59_code 201 = .ok (.aload_n 0, 1) := by decide +kernel
theorem d_M_callOn_202 : decode prog_13_method_59_code 202 = .ok (.invokevirtual 250, 3) := by decide +kernel
theorem d_M_callOn_205 : decode prog_13_method_59_code 205 = .ok (.imul, 1) := by decide +kernel
theorem d_M_callOn_206 : decode prog_13_method_59_code 206 = .ok (.if_icmp .ge 21, 3) := by decide +kernel
theorem d_M_callOn_209 : decode prog_13_method_59_code 209 = .ok (.aload_n 0, 1) := by decide +kernel
theorem d_M_callOn_210 : decode prog_13_method_59_code 210 = .ok (.getfield 40, 3) := by decide +kernel
theorem d_M_callOn_213 : decode prog_13_method_59_code 213 = .ok (.iload_n 1, 1) := by decide +kernel
theorem d_M_callOn_214 : decode prog_13_method_59_code 214 = .ok (.aload_n 0, 1) := by decide +kernel
theorem d_M_callOn_215 : decode prog_13_method_59_code 215 = .ok (.getfield 43, 3) := by decide +kernel
theorem d_M_callOn_218 : decode prog_13_method_59_code 218 = .ok (.iload_n 1, 1) := by decide +kernel
theorem d_M_callOn_219 : decode prog_13_method_59_code 219 = .ok (.iaload, 1) := by decide +kernel
theorem d_M_callOn_220 : decode prog_13_method_59_code 220 = .ok (.iastore, 1) := by decide +kernel
theorem d_M_callOn_221 : decode prog_13_method_59_code 221 = .ok (.iinc 1 1, 3) := by decide +kernel
theorem d_M_callOn_224 : decode prog_13_method_59_code 224 = .ok (.goto (-26), 3) := by decide +kernel
theorem d_M_callOn_227 : decode prog_13_method_59_code 227 = .ok (.return_, 1) := by decide +kernel
theorem w_M_callOn_L2 {p : Program} {l : Launch} {e : Env} {s : State} {m : MethodId} {args : Array Value} {below : List Frame} {meth : Method} {c : Code} {K : KT} {A : Nat → Prop} {Q : State → Prop} (C0 : Cx p s m args meth c prog_13_method_59_code "CanoeSidesModel" 6 K A) (hr : meth.sig.returnType = (Option.none : Option Jvm.ClassFile.FieldType)) {ad : Nat → Nat} (N : Nat) (x1 : Int32) (h : Hp) {x_ : (Int32 × Hp) ⊕ (Hp)} (hE : K_M_callOn_L2 N x1 h = some x_) (hk1 : ∀ z_, x_ = .inl z_ → G p l e rm_M_callOn s m args below meth c K A WM 6 0 0 Q 2 [(0, .ref (ad 100)), (1, .int z_.1)] [] ad z_.2) (hk3 : ∀ z_, x_ = .inr z_ → G p l e rm_M_callOn s m args below meth c K A WM 6 0 0 Q 27 [(0, .ref (ad 100))] [] ad z_) : G p l e rm_M_callOn s m args below meth c K A WM 6 0 0 Q 2 [(0, .ref (ad 100)), (1, .int x1)] [] ad h := by
  unfold K_M_callOn_L2 at hE
  refine g_iload_n C0 1 d_M_callOn_2 rfl rfl ?_
  refine g_bipush C0 (v := 16) d_M_callOn_3 (by decide) ?_
  refine g_aload_n C0 0 d_M_callOn_5 rfl rfl ?_
  obtain ⟨v6, z6, hE⟩ := bd_some hE
  refine g_calliP C0 nd_M [100, 101, 102, 103, 104, 105, 106, 107, 108, 109, 110, 111, 112, 113, 114, 115] rfl (sbW_self WM) (runV C0 (m_M_states l K ad h z6) 0 rfl ⟨t_1381, t_1383, t_65, t_97, t_1384⟩ cd_M_states (by decide) 0 rfl rfl (sbW_self WM) nd_M rfl rfl (Nat.le_of_ble_eq_true rfl) d_M_callOn_6) ?_
  refine g_imul C0 d_M_callOn_9 ?_
  have hB := ite_some hE
  refine g_icmp_ge C0 (tgt := 27) d_M_callOn_10 (by decide) (fun c_ => ?_) (fun c_ => ?_)
  · replace hE := hB.1 c_
    refine g_sub [0] (L' := [(0, .ref (ad 100))]) rfl ?_
    exact hk3 _ (Option.some.inj hE).symm
  · replace hE := hB.2 c_
    refine g_aload_n C0 0 d_M_callOn_13 rfl rfl ?_
    refine g_getr C0 CK_11 21 (by decide) t_1111 0 rfl rfl d_M_callOn_14 ?_
    refine g_iload_n C0 1 d_M_callOn_17 rfl rfl ?_
    refine g_ldc C0 (v := 99999999) t_1393 d_M_callOn_18 ?_
    obtain ⟨q20, hE⟩ := sA_some hE
    obtain ⟨h20, e20, hE⟩ := nm_some hE
    refine g_iast C0 10 rfl nd_M q20 d_M_callOn_20 ?_
    refine g_heap e20 ?_
    obtain ⟨v21, e21, hE⟩ := nm_some hE
    refine g_iinc C0 1 [(1, .int v21), (0, .ref (ad 100))] d_M_callOn_21 rfl (by rw [e21]; rfl) (by decide) rfl ?_
    refine g_goto C0 (tgt := 2) d_M_callOn_24 (by decide) ?_
    refine g_sub [1, 0] (L' := [(0, .ref (ad 100)), (1, .int v21)]) rfl ?_
    exact hk1 _ (Option.some.inj hE).symm
theorem w_M_callOn_J78 {p : Program} {l : Launch} {e : Env} {s : State} {m : MethodId} {args : Array Value} {below : List Frame} {meth : Method} {c : Code} {K : KT} {A : Nat → Prop} {Q : State → Prop} (C0 : Cx p s m args meth c prog_13_method_59_code "CanoeSidesModel" 6 K A) (hr : meth.sig.returnType = (Option.none : Option Jvm.ClassFile.FieldType)) {ad : Nat → Nat} (N : Nat) (x1 : Int32) (x3 : Int32) (y0 : Int32) (h : Hp) {x_ : (Int32 × Int32) ⊕ (Int32)} (hE : K_M_callOn_J78 N x1 x3 y0 h = some x_) (hk1 : ∀ z_, x_ = .inl z_ → G p l e rm_M_callOn s m args below meth c K A WM 6 0 0 Q 42 [(0, .ref (ad 100)), (1, .int x1), (2, .int z_.1), (3, .int z_.2)] [] ad h) (hk3 : ∀ z_, x_ = .inr z_ → G p l e rm_M_callOn s m args below meth c K A WM 6 0 0 Q 85 [(0, .ref (ad 100)), (1, .int x1), (2, .int z_)] [] ad h) : G p l e rm_M_callOn s m args below meth c K A WM 6 0 0 Q 78 [(0, .ref (ad 100)), (1, .int x1), (3, .int x3)] [.int y0] ad h := by
  unfold K_M_callOn_J78 at hE
  refine g_istore_n C0 [(2, .int y0), (0, .ref (ad 100)), (1, .int x1), (3, .int x3)] d_M_callOn_78 rfl (by decide) rfl ?_
  obtain ⟨v79, e79, hE⟩ := nm_some hE
  refine g_iinc C0 3 [(3, .int v79), (2, .int y0), (0, .ref (ad 100)), (1, .int x1)] d_M_callOn_79 rfl (by rw [e79]; rfl) (by decide) rfl ?_
  refine g_goto C0 (tgt := 42) d_M_callOn_82 (by decide) ?_
  refine g_sub [2, 3, 1, 0] (L' := [(0, .ref (ad 100)), (1, .int x1), (2, .int y0), (3, .int v79)]) rfl ?_
  exact hk1 _ (Option.some.inj hE).symm
theorem w_M_callOn_L42 {p : Program} {l : Launch} {e : Env} {s : State} {m : MethodId} {args : Array Value} {below : List Frame} {meth : Method} {c : Code} {K : KT} {A : Nat → Prop} {Q : State → Prop} (C0 : Cx p s m args meth c prog_13_method_59_code "CanoeSidesModel" 6 K A) (hr : meth.sig.returnType = (Option.none : Option Jvm.ClassFile.FieldType)) {ad : Nat → Nat} (N : Nat) (x1 : Int32) (x2 : Int32) (x3 : Int32) (h : Hp) {x_ : (Int32 × Int32) ⊕ (Int32)} (hE : K_M_callOn_L42 N x1 x2 x3 h = some x_) (hk1 : ∀ z_, x_ = .inl z_ → G p l e rm_M_callOn s m args below meth c K A WM 6 0 0 Q 42 [(0, .ref (ad 100)), (1, .int x1), (2, .int z_.1), (3, .int z_.2)] [] ad h) (hk3 : ∀ z_, x_ = .inr z_ → G p l e rm_M_callOn s m args below meth c K A WM 6 0 0 Q 85 [(0, .ref (ad 100)), (1, .int x1), (2, .int z_)] [] ad h) : G p l e rm_M_callOn s m args below meth c K A WM 6 0 0 Q 42 [(0, .ref (ad 100)), (1, .int x1), (2, .int x2), (3, .int x3)] [] ad h := by
  unfold K_M_callOn_L42 at hE
  refine g_iload_n C0 3 d_M_callOn_42 rfl rfl ?_
  refine g_bipush C0 (v := 16) d_M_callOn_43 (by decide) ?_
  have hB := ite_some hE
  refine g_icmp_ge C0 (tgt := 85) d_M_callOn_45 (by decide) (fun c_ => ?_) (fun c_ => ?_)
  · replace hE := hB.1 c_
    refine g_sub [0, 1, 2] (L' := [(0, .ref (ad 100)), (1, .int x1), (2, .int x2)]) rfl ?_
    exact hk3 _ (Option.some.inj hE).symm
  · replace hE := hB.2 c_
    refine g_aload_n C0 0 d_M_callOn_48 rfl rfl ?_
    refine g_getr C0 CK_11 20 (by decide) t_1110 0 rfl rfl d_M_callOn_49 ?_
    refine g_bipush C0 (v := 16) d_M_callOn_52 (by decide) ?_
    refine g_iload_n C0 1 d_M_callOn_54 rfl rfl ?_
    refine g_imul C0 d_M_callOn_55 ?_
    refine g_iload_n C0 3 d_M_callOn_56 rfl rfl ?_
    refine g_iadd C0 d_M_callOn_57 ?_
    obtain ⟨q58, v58, e58, hE⟩ := gA_some hE
    refine g_iald C0 9 rfl q58 d_M_callOn_58 ?_
    refine g_top e58 ?_
    refine g_iload_n C0 2 d_M_callOn_59 rfl rfl ?_
    have hB := ite_some hE
    refine g_icmp_ge C0 (tgt := 77) d_M_callOn_60 (by decide) (fun c_ => ?_) (fun c_ => ?_)
    · replace hE := hB.1 c_
      refine g_iload_n C0 2 d_M_callOn_77 rfl rfl ?_
      refine g_sub [0, 1, 3] (L' := [(0, .ref (ad 100)), (1, .int x1), (3, .int x3)]) rfl ?_
      exact w_M_callOn_J78 C0 hr N x1 x3 x2 h hE hk1 hk3
    · replace hE := hB.2 c_
      refine g_aload_n C0 0 d_M_callOn_63 rfl rfl ?_
      refine g_getr C0 CK_11 20 (by decide) t_1110 0 rfl rfl d_M_callOn_64 ?_
      refine g_bipush C0 (v := 16) d_M_callOn_67 (by decide) ?_
      refine g_iload_n C0 1 d_M_callOn_69 rfl rfl ?_
      refine g_imul C0 d_M_callOn_70 ?_
      refine g_iload_n C0 3 d_M_callOn_71 rfl rfl ?_
      refine g_iadd C0 d_M_callOn_72 ?_
      obtain ⟨q73, v73, e73, hE⟩ := gA_some hE
      refine g_iald C0 9 rfl q73 d_M_callOn_73 ?_
      refine g_top e73 ?_
      refine g_goto C0 (tgt := 78) d_M_callOn_74 (by decide) ?_
      refine g_sub [0, 1, 3] (L' := [(0, .ref (ad 100)), (1, .int x1), (3, .int x3)]) rfl ?_
      exact w_M_callOn_J78 C0 hr N x1 x3 v73 h hE hk1 hk3
theorem w_M_callOn_J183 {p : Program} {l : Launch} {e : Env} {s : State} {m : MethodId} {args : Array Value} {below : List Frame} {meth : Method} {c : Code} {K : KT} {A : Nat → Prop} {Q : State → Prop} (C0 : Cx p s m args meth c prog_13_method_59_code "CanoeSidesModel" 6 K A) (hr : meth.sig.returnType = (Option.none : Option Jvm.ClassFile.FieldType)) {ad : Nat → Nat} (N : Nat) (x1 : Int32) (x2 : Int32) (x3 : Int32) (y1 : Int32) (y2 : Int32) (h : Hp) {x_ : (Int32 × Hp) ⊕ (Hp)} (hE : K_M_callOn_J183 N x1 x2 x3 y1 y2 h = some x_) (hk1 : ∀ z_, x_ = .inl z_ → G p l e rm_M_callOn s m args below meth c K A WM 6 0 0 Q 87 [(0, .ref (ad 100)), (1, .int x1), (2, .int x2), (3, .int z_.1)] [] ad z_.2) (hk3 : ∀ z_, x_ = .inr z_ → G p l e rm_M_callOn s m args below meth c K A WM 6 0 0 Q 190 [(0, .ref (ad 100)), (1, .int x1)] [] ad z_) : G p l e rm_M_callOn s m args below meth c K A WM 6 0 0 Q 183 [(0, .ref (ad 100)), (1, .int x1), (2, .int x2), (3, .int x3)] [.int y2, .int y1, .ref (ad 110)] ad h := by
  unfold K_M_callOn_J183 at hE
  obtain ⟨q183, hE⟩ := sA_some hE
  obtain ⟨h183, e183, hE⟩ := nm_some hE
  refine g_iast C0 10 rfl nd_M q183 d_M_callOn_183 ?_
  refine g_heap e183 ?_
  obtain ⟨v184, e184, hE⟩ := nm_some hE
  refine g_iinc C0 3 [(3, .int v184), (0, .ref (ad 100)), (1, .int x1), (2, .int x2)] d_M_callOn_184 rfl (by rw [e184]; rfl) (by decide) rfl ?_
  refine g_goto C0 (tgt := 87) d_M_callOn_187 (by decide) ?_
  refine g_sub [1, 2, 3, 0] (L' := [(0, .ref (ad 100)), (1, .int x1), (2, .int x2), (3, .int v184)]) rfl ?_
  exact hk1 _ (Option.some.inj hE).symm
theorem w_M_callOn_J133 {p : Program} {l : Launch} {e : Env} {s : State} {m : MethodId} {args : Array Value} {below : List Frame} {meth : Method} {c : Code} {K : KT} {A : Nat → Prop} {Q : State → Prop} (C0 : Cx p s m args meth c prog_13_method_59_code "CanoeSidesModel" 6 K A) (hr : meth.sig.returnType = (Option.none : Option Jvm.ClassFile.FieldType)) {ad : Nat → Nat} (N : Nat) (x1 : Int32) (x2 : Int32) (x3 : Int32) (y0 : Int32) (h : Hp) {x_ : (Int32 × Hp) ⊕ (Hp)} (hE : K_M_callOn_J133 N x1 x2 x3 y0 h = some x_) (hk1 : ∀ z_, x_ = .inl z_ → G p l e rm_M_callOn s m args below meth c K A WM 6 0 0 Q 87 [(0, .ref (ad 100)), (1, .int x1), (2, .int x2), (3, .int z_.1)] [] ad z_.2) (hk3 : ∀ z_, x_ = .inr z_ → G p l e rm_M_callOn s m args below meth c K A WM 6 0 0 Q 190 [(0, .ref (ad 100)), (1, .int x1)] [] ad z_) : G p l e rm_M_callOn s m args below meth c K A WM 6 0 0 Q 133 [(0, .ref (ad 100)), (1, .int x1), (2, .int x2), (3, .int x3)] [.int y0] ad h := by
  unfold K_M_callOn_J133 at hE
  refine g_istore C0 [(4, .int y0), (0, .ref (ad 100)), (1, .int x1), (2, .int x2), (3, .int x3)] d_M_callOn_133 (by decide) rfl ?_
  refine g_bipush C0 (v := 16) d_M_callOn_135 (by decide) ?_
  refine g_aload_n C0 1 d_M_callOn_137 rfl rfl ?_
  refine g_iload_n C0 2 d_M_callOn_138 rfl rfl ?_
  refine g_iload_n C0 4 d_M_callOn_139 rfl rfl ?_
  refine g_iconst C0 (v := 4) d_M_callOn_140 (by decide) ?_
  refine g_idiv C0 d_M_callOn_141 (by decide) ?_
  refine g_iload_n C0 4 d_M_callOn_142 rfl rfl ?_
  refine g_iconst C0 (v := 4) d_M_callOn_143 (by decide) ?_
  refine g_irem C0 d_M_callOn_144 (by decide) ?_
  obtain ⟨v145, h145, z145, hE⟩ := bd2_some hE
  refine g_calli C0 nd_M [100, 101, 102, 103, 104, 105, 106, 107, 108, 109, 110, 111, 112, 113, 114, 115] rfl (sbW_self WM) (runV C0 (m_M_after l K ad h N x1 (x3 / 4) (rm32 x3 4) z145) 3 rfl ⟨t_1398, t_1400, t_69, t_97, t_1401⟩ cd_M_after (by decide) 0 rfl rfl (sbW_self WM) nd_M rfl rfl (Nat.le_of_ble_eq_true rfl) d_M_callOn_145) ?_
  refine g_mx [100, 101, 102, 103, 104, 105, 106, 107, 108, 109, 110, 111, 112, 113, 114, 115] rfl ?_
  refine g_imul C0 d_M_callOn_148 ?_
  refine g_iload_n C0 4 d_M_callOn_149 rfl rfl ?_
  refine g_iadd C0 d_M_callOn_150 ?_
  obtain ⟨v151, e151, hE⟩ := nm_some hE
  refine g_top e151 ?_
  refine g_istore C0 [(5, .int v151), (4, .int y0), (0, .ref (ad 100)), (1, .int x1), (2, .int x2), (3, .int x3)] d_M_callOn_151 (by decide) rfl ?_
  refine g_aload_n C0 2 d_M_callOn_153 rfl rfl ?_
  refine g_getr C0 CK_11 21 (by decide) t_1111 0 rfl rfl d_M_callOn_154 ?_
  refine g_iload C0 0 d_M_callOn_157 rfl ?_
  refine g_iload C0 1 d_M_callOn_159 rfl ?_
  refine g_aload_n C0 2 d_M_callOn_161 rfl rfl ?_
  refine g_getr C0 CK_11 21 (by decide) t_1111 0 rfl rfl d_M_callOn_162 ?_
  refine g_iload C0 0 d_M_callOn_165 rfl ?_
  obtain ⟨q167, v167, e167, hE⟩ := gA_some hE
  refine g_iald C0 10 rfl q167 d_M_callOn_167 ?_
  refine g_top e167 ?_
  have hB := ite_some hE
  refine g_icmp_ge C0 (tgt := 176) d_M_callOn_168 (by decide) (fun c_ => ?_) (fun c_ => ?_)
  · replace hE := hB.1 c_
    refine g_aload_n C0 2 d_M_callOn_176 rfl rfl ?_
    refine g_getr C0 CK_11 21 (by decide) t_1111 0 rfl rfl d_M_callOn_177 ?_
    refine g_iload C0 0 d_M_callOn_180 rfl ?_
    obtain ⟨q182, v182, e182, hE⟩ := gA_some hE
    refine g_iald C0 10 rfl q182 d_M_callOn_182 ?_
    refine g_top e182 ?_
    refine g_sub [2, 3, 4, 5] (L' := [(0, .ref (ad 100)), (1, .int x1), (2, .int x2), (3, .int x3)]) rfl ?_
    exact w_M_callOn_J183 C0 hr N x1 x2 x3 v151 v182 h145 hE hk1 hk3
  · replace hE := hB.2 c_
    refine g_iload C0 1 d_M_callOn_171 rfl ?_
    refine g_goto C0 (tgt := 183) d_M_callOn_173 (by decide) ?_
    refine g_sub [2, 3, 4, 5] (L' := [(0, .ref (ad 100)), (1, .int x1), (2, .int x2), (3, .int x3)]) rfl ?_
    exact w_M_callOn_J183 C0 hr N x1 x2 x3 v151 y0 h145 hE hk1 hk3
theorem w_M_callOn_L87 {p : Program} {l : Launch} {e : Env} {s : State} {m : MethodId} {args : Array Value} {below : List Frame} {meth : Method} {c : Code} {K : KT} {A : Nat → Prop} {Q : State → Prop} (C0 : Cx p s m args meth c prog_13_method_59_code "CanoeSidesModel" 6 K A) (hr : meth.sig.returnType = (Option.none : Option Jvm.ClassFile.FieldType)) {ad : Nat → Nat} (N : Nat) (x1 : Int32) (x2 : Int32) (x3 : Int32) (h : Hp) {x_ : (Int32 × Hp) ⊕ (Hp)} (hE : K_M_callOn_L87 N x1 x2 x3 h = some x_) (hk1 : ∀ z_, x_ = .inl z_ → G p l e rm_M_callOn s m args below meth c K A WM 6 0 0 Q 87 [(0, .ref (ad 100)), (1, .int x1), (2, .int x2), (3, .int z_.1)] [] ad z_.2) (hk3 : ∀ z_, x_ = .inr z_ → G p l e rm_M_callOn s m args below meth c K A WM 6 0 0 Q 190 [(0, .ref (ad 100)), (1, .int x1)] [] ad z_) : G p l e rm_M_callOn s m args below meth c K A WM 6 0 0 Q 87 [(0, .ref (ad 100)), (1, .int x1), (2, .int x2), (3, .int x3)] [] ad h := by
  unfold K_M_callOn_L87 at hE
  refine g_iload_n C0 3 d_M_callOn_87 rfl rfl ?_
  refine g_bipush C0 (v := 16) d_M_callOn_88 (by decide) ?_
  have hB := ite_some hE
  refine g_icmp_ge C0 (tgt := 190) d_M_callOn_90 (by decide) (fun c_ => ?_) (fun c_ => ?_)
  · replace hE := hB.1 c_
    refine g_sub [0, 1] (L' := [(0, .ref (ad 100)), (1, .int x1)]) rfl ?_
    exact hk3 _ (Option.some.inj hE).symm
  · replace hE := hB.2 c_
    refine g_iload_n C0 2 d_M_callOn_93 rfl rfl ?_
    refine g_ldc C0 (v := 99999999) t_1393 d_M_callOn_94 ?_
    have hB := ite_some hE
    refine g_icmp_ge C0 (tgt := 190) d_M_callOn_96 (by decide) (fun c_ => ?_) (fun c_ => ?_)
    · replace hE := hB.1 c_
      refine g_sub [0, 1] (L' := [(0, .ref (ad 100)), (1, .int x1)]) rfl ?_
      exact hk3 _ (Option.some.inj hE).symm
    · replace hE := hB.2 c_
      refine g_aload_n C0 0 d_M_callOn_99 rfl rfl ?_
      refine g_getr C0 CK_11 20 (by decide) t_1110 0 rfl rfl d_M_callOn_100 ?_
      refine g_bipush C0 (v := 16) d_M_callOn_103 (by decide) ?_
      refine g_iload_n C0 1 d_M_callOn_105 rfl rfl ?_
      refine g_imul C0 d_M_callOn_106 ?_
      refine g_iload_n C0 3 d_M_callOn_107 rfl rfl ?_
      refine g_iadd C0 d_M_callOn_108 ?_
      obtain ⟨q109, v109, e109, hE⟩ := gA_some hE
      refine g_iald C0 9 rfl q109 d_M_callOn_109 ?_
      refine g_top e109 ?_
      refine g_iload_n C0 2 d_M_callOn_110 rfl rfl ?_
      refine g_iconst C0 (v := 1) d_M_callOn_111 (by decide) ?_
      refine g_iadd C0 d_M_callOn_112 ?_
      have hB := ite_some hE
      refine g_icmp_ge C0 (tgt := 130) d_M_callOn_113 (by decide) (fun c_ => ?_) (fun c_ => ?_)
      · replace hE := hB.1 c_
        refine g_iload_n C0 2 d_M_callOn_130 rfl rfl ?_
        refine g_iconst C0 (v := 1) d_M_callOn_131 (by decide) ?_
        refine g_iadd C0 d_M_callOn_132 ?_
        exact w_M_callOn_J133 C0 hr N x1 x2 x3 (x2 + 1) h hE hk1 hk3
      · replace hE := hB.2 c_
        refine g_aload_n C0 0 d_M_callOn_116 rfl rfl ?_
        refine g_getr C0 CK_11 20 (by decide) t_1110 0 rfl rfl d_M_callOn_117 ?_
        refine g_bipush C0 (v := 16) d_M_callOn_120 (by decide) ?_
        refine g_iload_n C0 1 d_M_callOn_122 rfl rfl ?_
        refine g_imul C0 d_M_callOn_123 ?_
        refine g_iload_n C0 3 d_M_callOn_124 rfl rfl ?_
        refine g_iadd C0 d_M_callOn_125 ?_
        obtain ⟨q126, v126, e126, hE⟩ := gA_some hE
        refine g_iald C0 9 rfl q126 d_M_callOn_126 ?_
        refine g_top e126 ?_
        refine g_goto C0 (tgt := 133) d_M_callOn_127 (by decide) ?_
        exact w_M_callOn_J133 C0 hr N x1 x2 x3 v126 h hE hk1 hk3
theorem w_M_callOn_L29 {p : Program} {l : Launch} {e : Env} {s : State} {m : MethodId} {args : Array Value} {below : List Frame} {meth : Method} {c : Code} {K : KT} {A : Nat → Prop} {Q : State → Prop} (C0 : Cx p s m args meth c prog_13_method_59_code "CanoeSidesModel" 6 K A) (hr : meth.sig.returnType = (Option.none : Option Jvm.ClassFile.FieldType)) {ad : Nat → Nat} (N : Nat) (x1 : Int32) (h : Hp) {x_ : (Int32 × Hp) ⊕ (Hp)} (hE : K_M_callOn_L29 N x1 h = some x_) (hk1 : ∀ z_, x_ = .inl z_ → G p l e rm_M_callOn s m args below meth c K A WM 6 0 0 Q 29 [(0, .ref (ad 100)), (1, .int z_.1)] [] ad z_.2) (hk3 : ∀ z_, x_ = .inr z_ → G p l e rm_M_callOn s m args below meth c K A WM 6 0 0 Q 196 [(0, .ref (ad 100))] [] ad z_) : G p l e rm_M_callOn s m args below meth c K A WM 6 0 0 Q 29 [(0, .ref (ad 100)), (1, .int x1)] [] ad h := by
  unfold K_M_callOn_L29 at hE
  refine g_iload_n C0 1 d_M_callOn_29 rfl rfl ?_
  refine g_aload_n C0 0 d_M_callOn_30 rfl rfl ?_
  obtain ⟨v31, z31, hE⟩ := bd_some hE
  refine g_calliP C0 nd_M [100, 101, 102, 103, 104, 105, 106, 107, 108, 109, 110, 111, 112, 113, 114, 115] rfl (sbW_self WM) (runV C0 (m_M_states l K ad h z31) 0 rfl ⟨t_1381, t_1383, t_65, t_97, t_1384⟩ cd_M_states (by decide) 0 rfl rfl (sbW_self WM) nd_M rfl rfl (Nat.le_of_ble_eq_true rfl) d_M_callOn_31) ?_
  have hB := ite_some hE
  refine g_icmp_ge C0 (tgt := 196) d_M_callOn_34 (by decide) (fun c_ => ?_) (fun c_ => ?_)
  · replace hE := hB.1 c_
    refine g_sub [0] (L' := [(0, .ref (ad 100))]) rfl ?_
    exact hk3 _ (Option.some.inj hE).symm
  · replace hE := hB.2 c_
    refine g_ldc C0 (v := 99999999) t_1393 d_M_callOn_37 ?_
    refine g_istore_n C0 [(2, .int 99999999), (0, .ref (ad 100)), (1, .int x1)] d_M_callOn_39 rfl (by decide) rfl ?_
    refine g_iconst C0 (v := 0) d_M_callOn_40 (by decide) ?_
    refine g_istore_n C0 [(3, .int 0), (2, .int 99999999), (0, .ref (ad 100)), (1, .int x1)] d_M_callOn_41 rfl (by decide) rfl ?_
    refine g_sub [2, 3, 1, 0] (L' := [(0, .ref (ad 100)), (1, .int x1), (2, .int 99999999), (3, .int 0)]) rfl ?_
    obtain ⟨t42, z42, hE⟩ := bd_some hE
    refine loopG (fun z_ : Int32 × Int32 => K_M_callOn_L42 N x1 z_.1 z_.2 h) (fun z_ : Int32 × Int32 => G p l e rm_M_callOn s m args below meth c K A WM 6 0 0 _ 42 [(0, .ref (ad 100)), (1, .int x1), (2, .int z_.1), (3, .int z_.2)] [] ad h) (fun z_ : Int32 => G p l e rm_M_callOn s m args below meth c K A WM 6 0 0 _ 85 [(0, .ref (ad 100)), (1, .int x1), (2, .int z_)] [] ad h) (fun z_ x_ hz k1 k2 => w_M_callOn_L42 C0 hr N x1 z_.1 z_.2 h hz k1 k2) _ _ _ z42 ?_
    try dsimp only
    refine g_iconst C0 (v := 0) d_M_callOn_85 (by decide) ?_
    refine g_istore_n C0 [(3, .int 0), (0, .ref (ad 100)), (1, .int x1), (2, .int t42)] d_M_callOn_86 rfl (by decide) rfl ?_
    refine g_sub [1, 2, 3, 0] (L' := [(0, .ref (ad 100)), (1, .int x1), (2, .int t42), (3, .int 0)]) rfl ?_
    obtain ⟨t87, z87, hE⟩ := bd_some hE
    refine loopG (fun z_ : Int32 × Hp => K_M_callOn_L87 N x1 t42 z_.1 z_.2) (fun z_ : Int32 × Hp => G p l e rm_M_callOn s m args below meth c K A WM 6 0 0 _ 87 [(0, .ref (ad 100)), (1, .int x1), (2, .int t42), (3, .int z_.1)] [] ad z_.2) (fun z_ : Hp => G p l e rm_M_callOn s m args below meth c K A WM 6 0 0 _ 190 [(0, .ref (ad 100)), (1, .int x1)] [] ad z_) (fun z_ x_ hz k1 k2 => w_M_callOn_L87 C0 hr N x1 t42 z_.1 z_.2 hz k1 k2) _ _ _ z87 ?_
    try dsimp only
    obtain ⟨v190, e190, hE⟩ := nm_some hE
    refine g_iinc C0 1 [(1, .int v190), (0, .ref (ad 100))] d_M_callOn_190 rfl (by rw [e190]; rfl) (by decide) rfl ?_
    refine g_goto C0 (tgt := 29) d_M_callOn_193 (by decide) ?_
    refine g_sub [1, 0] (L' := [(0, .ref (ad 100)), (1, .int v190)]) rfl ?_
    exact hk1 _ (Option.some.inj hE).symm
theorem w_M_callOn_L198 {p : Program} {l : Launch} {e : Env} {s : State} {m : MethodId} {args : Array Value} {below : List Frame} {meth : Method} {c : Code} {K : KT} {A : Nat → Prop} {Q : State → Prop} (C0 : Cx p s m args meth c prog_13_method_59_code "CanoeSidesModel" 6 K A) (hr : meth.sig.returnType = (Option.none : Option Jvm.ClassFile.FieldType)) {ad : Nat → Nat} (N : Nat) (x1 : Int32) (h : Hp) {x_ : (Int32 × Hp) ⊕ (Hp)} (hE : K_M_callOn_L198 N x1 h = some x_) (hk1 : ∀ z_, x_ = .inl z_ → G p l e rm_M_callOn s m args below meth c K A WM 6 0 0 Q 198 [(0, .ref (ad 100)), (1, .int z_.1)] [] ad z_.2) (hk3 : ∀ z_, x_ = .inr z_ → G p l e rm_M_callOn s m args below meth c K A WM 6 0 0 Q 227 [] [] ad z_) : G p l e rm_M_callOn s m args below meth c K A WM 6 0 0 Q 198 [(0, .ref (ad 100)), (1, .int x1)] [] ad h := by
  unfold K_M_callOn_L198 at hE
  refine g_iload_n C0 1 d_M_callOn_198 rfl rfl ?_
  refine g_bipush C0 (v := 16) d_M_callOn_199 (by decide) ?_
  refine g_aload_n C0 0 d_M_callOn_201 rfl rfl ?_
  obtain ⟨v202, z202, hE⟩ := bd_some hE
  refine g_calliP C0 nd_M [100, 101, 102, 103, 104, 105, 106, 107, 108, 109, 110, 111, 112, 113, 114, 115] rfl (sbW_self WM) (runV C0 (m_M_states l K ad h z202) 0 rfl ⟨t_1381, t_1383, t_65, t_97, t_1384⟩ cd_M_states (by decide) 0 rfl rfl (sbW_self WM) nd_M rfl rfl (Nat.le_of_ble_eq_true rfl) d_M_callOn_202) ?_
  refine g_imul C0 d_M_callOn_205 ?_
  have hB := ite_some hE
  refine g_icmp_ge C0 (tgt := 227) d_M_callOn_206 (by decide) (fun c_ => ?_) (fun c_ => ?_)
  · replace hE := hB.1 c_
    refine g_sub [] (L' := []) rfl ?_
    exact hk3 _ (Option.some.inj hE).symm
  · replace hE := hB.2 c_
    refine g_aload_n C0 0 d_M_callOn_209 rfl rfl ?_
    refine g_getr C0 CK_11 20 (by decide) t_1110 0 rfl rfl d_M_callOn_210 ?_
    refine g_iload_n C0 1 d_M_callOn_213 rfl rfl ?_
    refine g_aload_n C0 0 d_M_callOn_214 rfl rfl ?_
    refine g_getr C0 CK_11 21 (by decide) t_1111 0 rfl rfl d_M_callOn_215 ?_
    refine g_iload_n C0 1 d_M_callOn_218 rfl rfl ?_
    obtain ⟨q219, v219, e219, hE⟩ := gA_some hE
    refine g_iald C0 10 rfl q219 d_M_callOn_219 ?_
    refine g_top e219 ?_
    obtain ⟨q220, hE⟩ := sA_some hE
    obtain ⟨h220, e220, hE⟩ := nm_some hE
    refine g_iast C0 9 rfl nd_M q220 d_M_callOn_220 ?_
    refine g_heap e220 ?_
    obtain ⟨v221, e221, hE⟩ := nm_some hE
    refine g_iinc C0 1 [(1, .int v221), (0, .ref (ad 100))] d_M_callOn_221 rfl (by rw [e221]; rfl) (by decide) rfl ?_
    refine g_goto C0 (tgt := 198) d_M_callOn_224 (by decide) ?_
    refine g_sub [1, 0] (L' := [(0, .ref (ad 100)), (1, .int v221)]) rfl ?_
    exact hk1 _ (Option.some.inj hE).symm
theorem w_M_callOn {p : Program} {l : Launch} {e : Env} {s : State} {m : MethodId} {args : Array Value} {below : List Frame} {meth : Method} {c : Code} {K : KT} {A : Nat → Prop} (C0 : Cx p s m args meth c prog_13_method_59_code "CanoeSidesModel" 6 K A) (hr : meth.sig.returnType = (Option.none : Option Jvm.ClassFile.FieldType)) {ad : Nat → Nat} (N : Nat) (h : Hp) {res : Hp} (hE : K_M_callOn N h = some res) : G p l e rm_M_callOn s m args below meth c K A WM 6 0 0 (QV s args below K A WM 0 0 ad res) 0 [(0, .ref (ad 100))] [] ad h := by
  unfold K_M_callOn at hE
  refine g_iconst C0 (v := 0) d_M_callOn_0 (by decide) ?_
  refine g_istore_n C0 [(1, .int 0), (0, .ref (ad 100))] d_M_callOn_1 rfl (by decide) rfl ?_
  refine g_sub [1, 0] (L' := [(0, .ref (ad 100)), (1, .int 0)]) rfl ?_
  obtain ⟨t2, z2, hE⟩ := bd_some hE
  refine loopG (fun z_ : Int32 × Hp => K_M_callOn_L2 N z_.1 z_.2) (fun z_ : Int32 × Hp => G p l e rm_M_callOn s m args below meth c K A WM 6 0 0 _ 2 [(0, .ref (ad 100)), (1, .int z_.1)] [] ad z_.2) (fun z_ : Hp => G p l e rm_M_callOn s m args below meth c K A WM 6 0 0 _ 27 [(0, .ref (ad 100))] [] ad z_) (fun z_ x_ hz k1 k2 => w_M_callOn_L2 C0 hr N z_.1 z_.2 hz k1 k2) _ _ _ z2 ?_
  try dsimp only
  refine g_iconst C0 (v := 0) d_M_callOn_27 (by decide) ?_
  refine g_istore_n C0 [(1, .int 0), (0, .ref (ad 100))] d_M_callOn_28 rfl (by decide) rfl ?_
  refine g_sub [1, 0] (L' := [(0, .ref (ad 100)), (1, .int 0)]) rfl ?_
  obtain ⟨t29, z29, hE⟩ := bd_some hE
  refine loopG (fun z_ : Int32 × Hp => K_M_callOn_L29 N z_.1 z_.2) (fun z_ : Int32 × Hp => G p l e rm_M_callOn s m args below meth c K A WM 6 0 0 _ 29 [(0, .ref (ad 100)), (1, .int z_.1)] [] ad z_.2) (fun z_ : Hp => G p l e rm_M_callOn s m args below meth c K A WM 6 0 0 _ 196 [(0, .ref (ad 100))] [] ad z_) (fun z_ x_ hz k1 k2 => w_M_callOn_L29 C0 hr N z_.1 z_.2 hz k1 k2) _ _ _ z29 ?_
  try dsimp only
  refine g_iconst C0 (v := 0) d_M_callOn_196 (by decide) ?_
  refine g_istore_n C0 [(1, .int 0), (0, .ref (ad 100))] d_M_callOn_197 rfl (by decide) rfl ?_
  refine g_sub [1, 0] (L' := [(0, .ref (ad 100)), (1, .int 0)]) rfl ?_
  obtain ⟨t198, z198, hE⟩ := bd_some hE
  refine loopG (fun z_ : Int32 × Hp => K_M_callOn_L198 N z_.1 z_.2) (fun z_ : Int32 × Hp => G p l e rm_M_callOn s m args below meth c K A WM 6 0 0 _ 198 [(0, .ref (ad 100)), (1, .int z_.1)] [] ad z_.2) (fun z_ : Hp => G p l e rm_M_callOn s m args below meth c K A WM 6 0 0 _ 227 [] [] ad z_) (fun z_ x_ hz k1 k2 => w_M_callOn_L198 C0 hr N z_.1 z_.2 hz k1 k2) _ _ _ z198 ?_
  try dsimp only
  obtain rfl := Option.some.inj hE
  exact g_vret C0 hr d_M_callOn_227
theorem m_M_callOn (l : Launch) (K : KT) (ad : Nat → Nat) (h : Hp) (N : Nat) {res : Hp} (hE : K_M_callOn N h = some res) : ConV l y_M_callOn prog_13_method_59_code 6 (Option.none : Option Jvm.ClassFile.FieldType) rm_M_callOn K WM ad h [.ref (ad 100)] res := fun sz =>
  con_start [(0, .ref (ad 100))] (by decide +kernel) rfl (Nat.le_of_ble_eq_true rfl) (fun p e s m args below meth c C0 hr hnm hsz => w_M_callOn C0 hr N h hE)
abbrev y_M_leastCalled : MethodName := ⟨"CanoeSidesModel", "leastCalled", "()I"⟩
abbrev rm_M_leastCalled : Room := { frames := 2, cells := 0, slots := 0, locals := 44 }
theorem cd_M_leastCalled : cwd y_M_leastCalled 0 := by decide +kernel
theorem d_M_leastCalled_0 : decode prog_13_method_60_code 0 = .ok (.ldc 240, 2) := by decide +kernel
theorem d_M_leastCalled_2 : decode prog_13_method_60_code 2 = .ok (.istore_n 1, 1) := by decide +kernel
theorem d_M_leastCalled_3 : decode prog_13_method_60_code 3 = .ok (.iconst 0, 1) := by decide +kernel
theorem d_M_leastCalled_4 : decode prog_13_method_60_code 4 = .ok (.istore_n 2, 1) := by decide +kernel
theorem d_M_leastCalled_5 : decode prog_13_method_60_code 5 = .ok (.iload_n 2, 1) := by decide +kernel
theorem d_M_leastCalled_6 : decode prog_13_method_60_code 6 = .ok (.bipush 16, 2) := by decide +kernel
theorem d_M_leastCalled_8 : decode prog_13_method_60_code 8 = .ok (.aload_n 0, 1) := by decide +kernel
theorem d_M_leastCalled_9 : decode prog_13_method_60_code 9 = .ok (.invokevirtual 250, 3) := by decide +kernel
theorem d_M_leastCalled_12 : decode prog_13_method_60_code 12 = .ok (.imul, 1) := by decide +kernel
theorem d_M_leastCalled_13 : decode prog_13_method_60_code 13 = .ok (.if_icmp .ge 41, 3) := by decide +kernel
theorem d_M_leastCalled_16 : decode prog_13_method_60_code 16 = .ok (.aload_n 0, 1) := by decide +kernel
theorem d_M_leastCalled_17 : decode prog_13_method_60_code 17 = .ok (.getfield 40, 3) := by decide +kernel
theorem d_M_leastCalled_20 : decode prog_13_method_60_code 20 = .ok (.iload_n 2, 1) := by decide +kernel
theorem d_M_leastCalled_21 : decode prog_13_method_60_code 21 = .ok (.iaload, 1) := by decide +kernel
theorem d_M_leastCalled_22 : decode prog_13_method_60_code 22 = .ok (.iload_n 1, 1) := by decide +kernel
theorem d_M_leastCalled_23 : decode prog_13_method_60_code 23 = .ok (.if_icmp .ge 23, 3) := by decide +kernel
theorem d_M_leastCalled_26 : decode prog_13_method_60_code 26 = .ok (.aload_n 0, 1) := by decide +kernel
theorem d_M_leastCalled_27 : decode prog_13_method_60_code 27 = .ok (.iload_n 2, 1) := by decide +kernel
theorem d_M_leastCalled_28 : decode prog_13_method_60_code 28 = .ok (.bipush 16, 2) := by decide +kernel
theorem d_M_leastCalled_30 : decode prog_13_method_60_code 30 = .ok (.idiv, 1) := by decide +kernel
theorem d_M_leastCalled_31 : decode prog_13_method_60_code 31 = .ok (.invokevirtual 253, 3) := by decide +kernel
theorem d_M_leastCalled_34 : decode prog_13_method_60_code 34 = .ok (.ifCond .eq 12, 3) := by decide +kernel
theorem d_M_leastCalled_37 : decode prog_13_method_60_code 37 = .ok (.aload_n 0, 1) := by decide +kernel
theorem d_M_leastCalled_38 : decode prog_13_method_60_code 38 = .ok (.getfield 40, 3) := by decide +kernel
theorem d_M_leastCalled_41 : decode prog_13_method_60_code 41 = .ok (.iload_n 2, 1) := by decide +kernel
theorem d_M_leastCalled_42 : decode prog_13_method_60_code 42 = .ok (.iaload, 1) := by decide +kernel
theorem d_M_leastCalled_43 : decode prog_13_method_60_code 43 = .ok (.goto 4, 3) := by decide +kernel
theorem d_M_leastCalled_46 : decode prog_13_method_60_code 46 = .ok (.iload_n 1, 1) := by decide +kernel
theorem d_M_leastCalled_47 : decode prog_13_method_60_code 47 = .ok (.istore_n 1, 1) := by decide +kernel
theorem d_M_leastCalled_48 : decode prog_13_method_60_code 48 = .ok (.iinc 2 1, 3) := by decide +kernel
theorem d_M_leastCalled_51 : decode prog_13_method_60_code 51 = .ok (.goto (-46), 3) := by decide +kernel
theorem d_M_leastCalled_54 : decode prog_13_method_60_code 54 = .ok (.iload_n 1, 1) := by decide +kernel
theorem d_M_leastCalled_55 : decode prog_13_method_60_code 55 = .ok (.ireturn, 1) := by decide +kernel
theorem w_M_leastCalled_J47 {p : Program} {l : Launch} {e : Env} {s : State} {m : MethodId} {args : Array Value} {below : List Frame} {meth : Method} {c : Code} {K : KT} {A : Nat → Prop} {Q : State → Prop} (C0 : Cx p s m args meth c prog_13_method_60_code "CanoeSidesModel" 3 K A) (hr : meth.sig.returnType = (Option.some Jvm.ClassFile.FieldType.int)) {ad : Nat → Nat} (N : Nat) (x2 : Int32) (y0 : Int32) (h : Hp) {x_ : (Int32 × Int32) ⊕ (Int32)} (hE : K_M_leastCalled_J47 N x2 y0 h = some x_) (hk1 : ∀ z_, x_ = .inl z_ → G p l e rm_M_leastCalled s m args below meth c K A WM 3 0 0 Q 5 [(0, .ref (ad 100)), (1, .int z_.1), (2, .int z_.2)] [] ad h) (hk3 : ∀ z_, x_ = .inr z_ → G p l e rm_M_leastCalled s m args below meth c K A WM 3 0 0 Q 54 [(1, .int z_)] [] ad h) : G p l e rm_M_leastCalled s m args below meth c K A WM 3 0 0 Q 47 [(0, .ref (ad 100)), (2, .int x2)] [.int y0] ad h := by
  unfold K_M_leastCalled_J47 at hE
  refine g_istore_n C0 [(1, .int y0), (0, .ref (ad 100)), (2, .int x2)] d_M_leastCalled_47 rfl (by decide) rfl ?_
  obtain ⟨v48, e48, hE⟩ := nm_some hE
  refine g_iinc C0 2 [(2, .int v48), (1, .int y0), (0, .ref (ad 100))] d_M_leastCalled_48 rfl (by rw [e48]; rfl) (by decide) rfl ?_
  refine g_goto C0 (tgt := 5) d_M_leastCalled_51 (by decide) ?_
  refine g_sub [2, 1, 0] (L' := [(0, .ref (ad 100)), (1, .int y0), (2, .int v48)]) rfl ?_
  exact hk1 _ (Option.some.inj hE).symm
theorem w_M_leastCalled_J46 {p : Program} {l : Launch} {e : Env} {s : State} {m : MethodId} {args : Array Value} {below : List Frame} {meth : Method} {c : Code} {K : KT} {A : Nat → Prop} {Q : State → Prop} (C0 : Cx p s m args meth c prog_13_method_60_code "CanoeSidesModel" 3 K A) (hr : meth.sig.returnType = (Option.some Jvm.ClassFile.FieldType.int)) {ad : Nat → Nat} (N : Nat) (x1 : Int32) (x2 : Int32) (h : Hp) {x_ : (Int32 × Int32) ⊕ (Int32)} (hE : K_M_leastCalled_J46 N x1 x2 h = some x_) (hk1 : ∀ z_, x_ = .inl z_ → G p l e rm_M_leastCalled s m args below meth c K A WM 3 0 0 Q 5 [(0, .ref (ad 100)), (1, .int z_.1), (2, .int z_.2)] [] ad h) (hk3 : ∀ z_, x_ = .inr z_ → G p l e rm_M_leastCalled s m args below meth c K A WM 3 0 0 Q 54 [(1, .int z_)] [] ad h) : G p l e rm_M_leastCalled s m args below meth c K A WM 3 0 0 Q 46 [(0, .ref (ad 100)), (1, .int x1), (2, .int x2)] [] ad h := by
  unfold K_M_leastCalled_J46 at hE
  refine g_iload_n C0 1 d_M_leastCalled_46 rfl rfl ?_
  refine g_sub [0, 2] (L' := [(0, .ref (ad 100)), (2, .int x2)]) rfl ?_
  exact w_M_leastCalled_J47 C0 hr N x2 x1 h hE hk1 hk3
theorem w_M_leastCalled_L5 {p : Program} {l : Launch} {e : Env} {s : State} {m : MethodId} {args : Array Value} {below : List Frame} {meth : Method} {c : Code} {K : KT} {A : Nat → Prop} {Q : State → Prop} (C0 : Cx p s m args meth c prog_13_method_60_code "CanoeSidesModel" 3 K A) (hr : meth.sig.returnType = (Option.some Jvm.ClassFile.FieldType.int)) {ad : Nat → Nat} (N : Nat) (x1 : Int32) (x2 : Int32) (h : Hp) {x_ : (Int32 × Int32) ⊕ (Int32)} (hE : K_M_leastCalled_L5 N x1 x2 h = some x_) (hk1 : ∀ z_, x_ = .inl z_ → G p l e rm_M_leastCalled s m args below meth c K A WM 3 0 0 Q 5 [(0, .ref (ad 100)), (1, .int z_.1), (2, .int z_.2)] [] ad h) (hk3 : ∀ z_, x_ = .inr z_ → G p l e rm_M_leastCalled s m args below meth c K A WM 3 0 0 Q 54 [(1, .int z_)] [] ad h) : G p l e rm_M_leastCalled s m args below meth c K A WM 3 0 0 Q 5 [(0, .ref (ad 100)), (1, .int x1), (2, .int x2)] [] ad h := by
  unfold K_M_leastCalled_L5 at hE
  refine g_iload_n C0 2 d_M_leastCalled_5 rfl rfl ?_
  refine g_bipush C0 (v := 16) d_M_leastCalled_6 (by decide) ?_
  refine g_aload_n C0 0 d_M_leastCalled_8 rfl rfl ?_
  obtain ⟨v9, z9, hE⟩ := bd_some hE
  refine g_calliP C0 nd_M [100, 101, 102, 103, 104, 105, 106, 107, 108, 109, 110, 111, 112, 113, 114, 115] rfl (sbW_self WM) (runV C0 (m_M_states l K ad h z9) 0 rfl ⟨t_1381, t_1383, t_65, t_97, t_1384⟩ cd_M_states (by decide) 0 rfl rfl (sbW_self WM) nd_M rfl rfl (Nat.le_of_ble_eq_true rfl) d_M_leastCalled_9) ?_
  refine g_imul C0 d_M_leastCalled_12 ?_
  have hB := ite_some hE
  refine g_icmp_ge C0 (tgt := 54) d_M_leastCalled_13 (by decide) (fun c_ => ?_) (fun c_ => ?_)
  · replace hE := hB.1 c_
    refine g_sub [1] (L' := [(1, .int x1)]) rfl ?_
    exact hk3 _ (Option.some.inj hE).symm
  · replace hE := hB.2 c_
    refine g_aload_n C0 0 d_M_leastCalled_16 rfl rfl ?_
    refine g_getr C0 CK_11 20 (by decide) t_1110 0 rfl rfl d_M_leastCalled_17 ?_
    refine g_iload_n C0 2 d_M_leastCalled_20 rfl rfl ?_
    obtain ⟨q21, v21, e21, hE⟩ := gA_some hE
    refine g_iald C0 9 rfl q21 d_M_leastCalled_21 ?_
    refine g_top e21 ?_
    refine g_iload_n C0 1 d_M_leastCalled_22 rfl rfl ?_
    have hB := ite_some hE
    refine g_icmp_ge C0 (tgt := 46) d_M_leastCalled_23 (by decide) (fun c_ => ?_) (fun c_ => ?_)
    · replace hE := hB.1 c_
      exact w_M_leastCalled_J46 C0 hr N x1 x2 h hE hk1 hk3
    · replace hE := hB.2 c_
      refine g_aload_n C0 0 d_M_leastCalled_26 rfl rfl ?_
      refine g_iload_n C0 2 d_M_leastCalled_27 rfl rfl ?_
      refine g_bipush C0 (v := 16) d_M_leastCalled_28 (by decide) ?_
      refine g_idiv C0 d_M_leastCalled_30 (by decide) ?_
      obtain ⟨v31, z31, hE⟩ := bd_some hE
      refine g_calliP C0 nd_M [100, 101, 102, 103, 104, 105, 106, 107, 108, 109, 110, 111, 112, 113, 114, 115] rfl (sbW_self WM) (runV C0 (m_M_isGoalState l K ad h (x2 / 16) z31) 1 rfl ⟨t_1389, t_1391, t_67, t_97, t_1392⟩ cd_M_isGoalState (by decide) 0 rfl rfl (sbW_self WM) nd_M rfl rfl (Nat.le_of_ble_eq_true rfl) d_M_leastCalled_31) ?_
      have hB := ite_some hE
      refine g_if_eq C0 (tgt := 46) d_M_leastCalled_34 (by decide) (fun c_ => ?_) (fun c_ => ?_)
      · replace hE := hB.1 c_
        exact w_M_leastCalled_J46 C0 hr N x1 x2 h hE hk1 hk3
      · replace hE := hB.2 c_
        refine g_aload_n C0 0 d_M_leastCalled_37 rfl rfl ?_
        refine g_getr C0 CK_11 20 (by decide) t_1110 0 rfl rfl d_M_leastCalled_38 ?_
        refine g_iload_n C0 2 d_M_leastCalled_41 rfl rfl ?_
        obtain ⟨q42, v42, e42, hE⟩ := gA_some hE
        refine g_iald C0 9 rfl q42 d_M_leastCalled_42 ?_
        refine g_top e42 ?_
        refine g_goto C0 (tgt := 47) d_M_leastCalled_43 (by decide) ?_
        refine g_sub [0, 2] (L' := [(0, .ref (ad 100)), (2, .int x2)]) rfl ?_
        exact w_M_leastCalled_J47 C0 hr N x2 v42 h hE hk1 hk3
theorem w_M_leastCalled {p : Program} {l : Launch} {e : Env} {s : State} {m : MethodId} {args : Array Value} {below : List Frame} {meth : Method} {c : Code} {K : KT} {A : Nat → Prop} (C0 : Cx p s m args meth c prog_13_method_60_code "CanoeSidesModel" 3 K A) (hr : meth.sig.returnType = (Option.some Jvm.ClassFile.FieldType.int)) {ad : Nat → Nat} (N : Nat) (h : Hp) {res : Int32} (hE : K_M_leastCalled N h = some res) : G p l e rm_M_leastCalled s m args below meth c K A WM 3 0 0 (QI s args below K A WM 0 0 ad res h) 0 [(0, .ref (ad 100))] [] ad h := by
  unfold K_M_leastCalled at hE
  refine g_ldc C0 (v := 99999999) t_1393 d_M_leastCalled_0 ?_
  refine g_istore_n C0 [(1, .int 99999999), (0, .ref (ad 100))] d_M_leastCalled_2 rfl (by decide) rfl ?_
  refine g_iconst C0 (v := 0) d_M_leastCalled_3 (by decide) ?_
  refine g_istore_n C0 [(2, .int 0), (1, .int 99999999), (0, .ref (ad 100))] d_M_leastCalled_4 rfl (by decide) rfl ?_
  refine g_sub [2, 1, 0] (L' := [(0, .ref (ad 100)), (1, .int 99999999), (2, .int 0)]) rfl ?_
  obtain ⟨t5, z5, hE⟩ := bd_some hE
  refine loopG (fun z_ : Int32 × Int32 => K_M_leastCalled_L5 N z_.1 z_.2 h) (fun z_ : Int32 × Int32 => G p l e rm_M_leastCalled s m args below meth c K A WM 3 0 0 _ 5 [(0, .ref (ad 100)), (1, .int z_.1), (2, .int z_.2)] [] ad h) (fun z_ : Int32 => G p l e rm_M_leastCalled s m args below meth c K A WM 3 0 0 _ 54 [(1, .int z_)] [] ad h) (fun z_ x_ hz k1 k2 => w_M_leastCalled_L5 C0 hr N z_.1 z_.2 h hz k1 k2) _ _ _ z5 ?_
  try dsimp only
  refine g_iload_n C0 0 d_M_leastCalled_54 rfl rfl ?_
  obtain rfl := Option.some.inj hE
  exact g_iret C0 hr d_M_leastCalled_55
theorem m_M_leastCalled (l : Launch) (K : KT) (ad : Nat → Nat) (h : Hp) (N : Nat) {res : Int32} (hE : K_M_leastCalled N h = some res) : ConI l y_M_leastCalled prog_13_method_60_code 3 (Option.some Jvm.ClassFile.FieldType.int) rm_M_leastCalled K WM ad h [.ref (ad 100)] res h := fun sz =>
  con_start [(0, .ref (ad 100))] (by decide +kernel) rfl (Nat.le_of_ble_eq_true rfl) (fun p e s m args below meth c C0 hr hnm hsz => w_M_leastCalled C0 hr N h hE)
abbrev y_M_calls : MethodName := ⟨"CanoeSidesModel", "calls", "(II)I"⟩
abbrev rm_M_calls : Room := { frames := 7, cells := 0, slots := 0, locals := 172 }
theorem cd_M_calls : cwd y_M_calls 2 := by decide +kernel
theorem d_M_calls_0 : decode prog_13_method_61_code 0 = .ok (.iload_n 1, 1) := by decide +kernel
theorem d_M_calls_1 : decode prog_13_method_61_code 1 = .ok (.i2l, 1) := by decide +kernel
theorem d_M_calls_2 : decode prog_13_method_61_code 2 = .ok (.lconst 0, 1) := by decide +kernel
theorem d_M_calls_3 : decode prog_13_method_61_code 3 = .ok (.ldc2_w 270, 3) := by decide +kernel
theorem d_M_calls_6 : decode prog_13_method_61_code 6 = .ok (.invokestatic 67, 3) := by decide +kernel
theorem d_M_calls_9 : decode prog_13_method_61_code 9 = .ok (.ifCond .eq 13, 3) := by decide +kernel
theorem d_M_calls_12 : decode prog_13_method_61_code 12 = .ok (.iload_n 2, 1) := by decide +kernel
theorem d_M_calls_13 : decode prog_13_method_61_code 13 = .ok (.i2l, 1) := by decide +kernel
theorem d_M_calls_14 : decode prog_13_method_61_code 14 = .ok (.lconst 0, 1) := by decide +kernel
theorem d_M_calls_15 : decode prog_13_method_61_code 15 = .ok (.lconst 1, 1) := by decide +kernel
theorem d_M_calls_16 : decode prog_13_method_61_code 16 = .ok (.invokestatic 67, 3) := by decide +kernel
theorem d_M_calls_19 : decode prog_13_method_61_code 19 = .ok (.ifCond .ne 6, 3) := by decide +kernel
theorem d_M_calls_22 : decode prog_13_method_61_code 22 = .ok (.ldc 71, 2) := by decide +kernel
theorem d_M_calls_24 : decode prog_13_method_61_code 24 = .ok (.ireturn, 1) := by decide +kernel
theorem d_M_calls_25 : decode prog_13_method_61_code 25 = .ok (.aload_n 0, 1) := by decide +kernel
theorem d_M_calls_26 : decode prog_13_method_61_code 26 = .ok (.invokevirtual 143, 3) := by decide +kernel
theorem d_M_calls_29 : decode prog_13_method_61_code 29 = .ok (.ifCond .eq 6, 3) := by decide +kernel
theorem d_M_calls_32 : decode prog_13_method_61_code 32 = .ok (.ldc 215, 2) := by decide +kernel
theorem d_M_calls_34 : decode prog_13_method_61_code 34 = .ok (.ireturn, 1) := by decide +kernel
theorem d_M_calls_35 : decode prog_13_method_61_code 35 = .ok (.aload_n 0, 1) := by decide +kernel
theorem d_M_calls_36 : decode prog_13_method_61_code 36 = .ok (.iconst 0, 1) := by decide +kernel
theorem d_M_calls_37 : decode prog_13_method_61_code 37 = .ok (.putfield 166, 3) := by decide +kernel
theorem d_M_calls_40 : decode prog_13_method_61_code 40 = .ok (.iconst 0, 1) := by decide +kernel
theorem d_M_calls_41 : decode prog_13_method_61_code 41 = .ok (.istore_n 3, 1) := by decide +kernel
theorem d_M_calls_42 : decode prog_13_method_61_code 42 = .ok (.iload_n 3, 1) := by decide +kernel
theorem d_M_calls_43 : decode prog_13_method_61_code 43 = .ok (.bipush 16, 2) := by decide +kernel
theorem d_M_calls_45 : decode prog_13_method_61_code 45 = .ok (.aload_n 0, 1) := by decide +kernel
theorem d_M_calls_46 : decode prog_13_method_61_code 46 = .ok (.invokevirtual 250, 3) := by decide +kernel
theorem d_M_calls_49 : decode prog_13_method_61_code 49 = .ok (.imul, 1) := by decide +kernel
theorem d_M_calls_50 : decode prog_13_method_61_code 50 = .ok (.if_icmp .ge 17, 3) := by decide +kernel
theorem d_M_calls_53 : decode prog_13_method_61_code 53 = .ok (.aload_n 0, 1) := by decide +kernel
theorem d_M_calls_54 : decode prog_13_method_61_code 54 = .ok (.getfield 40, 3) := by decide +kernel
theorem d_M_calls_57 : decode prog_13_method_61_code 57 = .ok (.iload_n 3, 1) := by decide +kernel
theorem d_M_calls_58 : decode prog_13_method_61_code 58 = .ok (.ldc 240, 2) := by decide +kernel
theorem d_M_calls_60 : decode prog_13_method_61_code 60 = .ok (.iastore, 1) := by decide +kernel
theorem d_M_calls_61 : decode prog_13_method_61_code 61 = .ok (.iinc 3 1, 3) := by decide +kernel
theorem d_M_calls_64 : decode prog_13_method_61_code 64 = .ok (.goto (-22), 3) := by decide +kernel
theorem d_M_calls_67 : decode prog_13_method_61_code 67 = .ok (.aload_n 0, 1) := by decide +kernel
theorem d_M_calls_68 : decode prog_13_method_61_code 68 = .ok (.getfield 40, 3) := by decide +kernel
theorem d_M_calls_71 : decode prog_13_method_61_code 71 = .ok (.bipush 16, 2) := by decide +kernel
theorem d_M_calls_73 : decode prog_13_method_61_code 73 = .ok (.aload_n 0, 1) := by decide +kernel
theorem d_M_calls_74 : decode prog_13_method_61_code 74 = .ok (.invokevirtual 265, 3) := by decide +kernel
theorem d_M_calls_77 : decode prog_13_method_61_code 77 = .ok (.imul, 1) := by decide +kernel
theorem d_M_calls_78 : decode prog_13_method_61_code 78 = .ok (.iload_n 1, 1) := by decide +kernel
theorem d_M_calls_79 : decode prog_13_method_61_code 79 = .ok (.iadd, 1) := by decide +kernel
theorem d_M_calls_80 : decode prog_13_method_61_code 80 = .ok (.iconst 0, 1) := by decide +kernel
theorem d_M_calls_81 : decode prog_13_method_61_code 81 = .ok (.iastore, 1) := by decide +kernel
theorem d_M_calls_82 : decode prog_13_method_61_code 82 = .ok (.aload_n 0, 1) := by decide +kernel
theorem d_M_calls_83 : decode prog_13_method_61_code 83 = .ok (.invokevirtual 272, 3) := by decide +kernel
theorem d_M_calls_86 : decode prog_13_method_61_code 86 = .ok (.istore_n 3, 1) := by decide +kernel
theorem d_M_calls_87 : decode prog_13_method_61_code 87 = .ok (.iload_n 3, 1) := by decide +kernel
theorem d_M_calls_88 : decode prog_13_method_61_code 88 = .ok (.ldc 240, 2) := by decide +kernel
theorem d_M_calls_90 : decode prog_13_method_61_code 90 = .ok (.if_icmp .ne 7, 3) := by decide +kernel
theorem d_M_calls_93 : decode prog_13_method_61_code 93 = .ok (.iconst (-1), 1) := by decide +kernel
theorem d_M_calls_94 : decode prog_13_method_61_code 94 = .ok (.goto 4, 3) := by decide +kernel
theorem d_M_calls_97 : decode prog_13_method_61_code 97 = .ok (.iconst 0, 1) := by decide +kernel
theorem d_M_calls_98 : decode prog_13_method_61_code 98 = .ok (.istore 4, 2) := by decide +kernel
theorem d_M_calls_100 : decode prog_13_method_61_code 100 = .ok (.iconst 1, 1) := by decide +kernel
theorem d_M_calls_101 : decode prog_13_method_61_code 101 = .ok (.istore 5, 2) := by decide +kernel
theorem d_M_calls_103 : decode prog_13_method_61_code 103 = .ok (.iload 5, 2) := by decide +kernel
theorem d_M_calls_105 : decode prog_13_method_61_code 105 = .ok (.bipush 60, 2) := by decide +kernel
theorem d_M_calls_107 : decode prog_13_method_61_code 107 = .ok (.if_icmp .gt 51, 3) := by decide +kernel
theorem d_M_calls_110 : decode prog_13_method_61_code 110 = .ok (.iload_n 3, 1) := by decide +kernel
theorem d_M_calls_111 : decode prog_13_method_61_code 111 = .ok (.ifCond .le 47, 3) := by decide +kernel
theorem d_M_calls_114 : decode prog_13_method_61_code 114 = .ok (.aload_n 0, 1) := by decide +kernel
theorem d_M_calls_115 : decode prog_13_method_61_code 115 = .ok (.invokevirtual 275, 3) := by decide +kernel
theorem d_M_calls_118 : decode prog_13_method_61_code 118 = .ok (.aload_n 0, 1) := by decide +kernel
theorem d_M_calls_119 : decode prog_13_method_61_code 119 = .ok (.invokevirtual 272, 3) := by decide +kernel
theorem d_M_calls_122 : decode prog_13_method_61_code 122 = .ok (.istore 6, 2) := by decide +kernel
theorem d_M_calls_124 : decode prog_13_method_61_code 124 = .ok (.iload 6, 2) := by decide +kernel
theorem d_M_calls_126 : decode prog_13_method_61_code 126 = .ok (.iload_n 3, 1) := by decide +kernel
theorem d_M_calls_127 : decode prog_13_method_61_code 127 = .ok (.if_icmp .ge 8, 3) := by decide +kernel
theorem d_M_calls_130 : decode prog_13_method_61_code 130 = .ok (.iload 5, 2) := by decide +kernel
theorem d_M_calls_132 : decode prog_13_method_61_code 132 = .ok (.goto 5, 3) := by decide +kernel
theorem d_M_calls_135 : decode prog_13_method_61_code 135 = .ok (.iload 4, 2) := by decide +kernel
theorem d_M_calls_137 : decode prog_13_method_61_code 137 = .ok (.istore 4, 2) := by decide +kernel
theorem d_M_calls_139 : decode prog_13_method_61_code 139 = .ok (.iload 6, 2) := by decide +kernel
theorem d_M_calls_141 : decode prog_13_method_61_code 141 = .ok (.iload_n 3, 1) := by decide +kernel
theorem d_M_calls_142 : decode prog_13_method_61_code 142 = .ok (.if_icmp .ge 8, 3) := by decide +kernel
theorem d_M_calls_145 : decode prog_13_method_61_code 145 = .ok (.iload 6, 2) := by decide +kernel
theorem d_M_calls_147 : decode prog_13_method_61_code 147 = .ok (.goto 4, 3) := by decide +kernel
theorem d_M_calls_150 : decode prog_13_method_61_code 150 = .ok (.iload_n 3, 1) := by decide +kernel
theorem d_M_calls_151 : decode prog_13_method_61_code 151 = .ok (.istore_n 3, 1) := by decide +kernel
theorem d_M_calls_152 : decode prog_13_method_61_code 152 = .ok (.iinc 5 1, 3) := by decide +kernel
theorem d_M_calls_155 : decode prog_13_method_61_code 155 = .ok (.goto (-52), 3) := by decide +kernel
theorem d_M_calls_158 : decode prog_13_method_61_code 158 = .ok (.iload_n 3, 1) := by decide +kernel
theorem d_M_calls_159 : decode prog_13_method_61_code 159 = .ok (.ldc 240, 2) := by decide +kernel
theorem d_M_calls_161 : decode prog_13_method_61_code 161 = .ok (.if_icmp .ne 7, 3) := by decide +kernel
theorem d_M_calls_164 : decode prog_13_method_61_code 164 = .ok (.iconst (-1), 1) := by decide +kernel
theorem d_M_calls_165 : decode prog_13_method_61_code 165 = .ok (.goto 13, 3) := by decide +kernel
theorem d_M_calls_168 : decode prog_13_method_61_code 168 = .ok (.iload_n 2, 1) := by decide +kernel
theorem d_M_calls_169 : decode prog_13_method_61_code 169 = .ok (.ifCond .ne 7, 3) := by decide +kernel
theorem d_M_calls_172 : decode prog_13_method_61_code 172 = .ok (.iload_n 3, 1) := by decide +kernel
theorem d_M_calls_173 : decode prog_13_method_61_code 173 = .ok (.goto 5, 3) := by decide +kernel
theorem d_M_calls_176 : decode prog_13_method_61_code 176 = .ok (.iload 4, 2) := by decide +kernel
theorem d_M_calls_178 : decode prog_13_method_61_code 178 = .ok (.ireturn, 1) := by decide +kernel
theorem w_M_calls_L42 {p : Program} {l : Launch} {e : Env} {s : State} {m : MethodId} {args : Array Value} {below : List Frame} {meth : Method} {c : Code} {K : KT} {A : Nat → Prop} {Q : State → Prop} (C0 : Cx p s m args meth c prog_13_method_61_code "CanoeSidesModel" 7 K A) (hr : meth.sig.returnType = (Option.some Jvm.ClassFile.FieldType.int)) {ad : Nat → Nat} (N : Nat) (x1 : Int32) (x2 : Int32) (x3 : Int32) (h : Hp) {x_ : (Int32 × Hp) ⊕ (Hp)} (hE : K_M_calls_L42 N x1 x2 x3 h = some x_) (hk1 : ∀ z_, x_ = .inl z_ → G p l e rm_M_calls s m args below meth c K A WM 7 0 0 Q 42 [(0, .ref (ad 100)), (1, .int x1), (2, .int x2), (3, .int z_.1)] [] ad z_.2) (hk3 : ∀ z_, x_ = .inr z_ → G p l e rm_M_calls s m args below meth c K A WM 7 0 0 Q 67 [(0, .ref (ad 100)), (1, .int x1), (2, .int x2)] [] ad z_) : G p l e rm_M_calls s m args below meth c K A WM 7 0 0 Q 42 [(0, .ref (ad 100)), (1, .int x1), (2, .int x2), (3, .int x3)] [] ad h := by
  unfold K_M_calls_L42 at hE
  refine g_iload_n C0 3 d_M_calls_42 rfl rfl ?_
  refine g_bipush C0 (v := 16) d_M_calls_43 (by decide) ?_
  refine g_aload_n C0 0 d_M_calls_45 rfl rfl ?_
  obtain ⟨v46, z46, hE⟩ := bd_some hE
  refine g_calliP C0 nd_M [100, 101, 102, 103, 104, 105, 106, 107, 108, 109, 110, 111, 112, 113, 114, 115] rfl (sbW_self WM) (runV C0 (m_M_states l K ad h z46) 0 rfl ⟨t_1381, t_1383, t_65, t_97, t_1384⟩ cd_M_states (by decide) 0 rfl rfl (sbW_self WM) nd_M rfl rfl (Nat.le_of_ble_eq_true rfl) d_M_calls_46) ?_
  refine g_imul C0 d_M_calls_49 ?_
  have hB := ite_some hE
  refine g_icmp_ge C0 (tgt := 67) d_M_calls_50 (by decide) (fun c_ => ?_) (fun c_ => ?_)
  · replace hE := hB.1 c_
    refine g_sub [0, 1, 2] (L' := [(0, .ref (ad 100)), (1, .int x1), (2, .int x2)]) rfl ?_
    exact hk3 _ (Option.some.inj hE).symm
  · replace hE := hB.2 c_
    refine g_aload_n C0 0 d_M_calls_53 rfl rfl ?_
    refine g_getr C0 CK_11 20 (by decide) t_1110 0 rfl rfl d_M_calls_54 ?_
    refine g_iload_n C0 3 d_M_calls_57 rfl rfl ?_
    refine g_ldc C0 (v := 99999999) t_1393 d_M_calls_58 ?_
    obtain ⟨q60, hE⟩ := sA_some hE
    obtain ⟨h60, e60, hE⟩ := nm_some hE
    refine g_iast C0 9 rfl nd_M q60 d_M_calls_60 ?_
    refine g_heap e60 ?_
    obtain ⟨v61, e61, hE⟩ := nm_some hE
    refine g_iinc C0 3 [(3, .int v61), (0, .ref (ad 100)), (1, .int x1), (2, .int x2)] d_M_calls_61 rfl (by rw [e61]; rfl) (by decide) rfl ?_
    refine g_goto C0 (tgt := 42) d_M_calls_64 (by decide) ?_
    refine g_sub [1, 2, 3, 0] (L' := [(0, .ref (ad 100)), (1, .int x1), (2, .int x2), (3, .int v61)]) rfl ?_
    exact hk1 _ (Option.some.inj hE).symm
theorem w_M_calls_J151 {p : Program} {l : Launch} {e : Env} {s : State} {m : MethodId} {args : Array Value} {below : List Frame} {meth : Method} {c : Code} {K : KT} {A : Nat → Prop} {Q : State → Prop} (C0 : Cx p s m args meth c prog_13_method_61_code "CanoeSidesModel" 7 K A) (hr : meth.sig.returnType = (Option.some Jvm.ClassFile.FieldType.int)) {ad : Nat → Nat} (N : Nat) (x2 : Int32) (x4 : Int32) (x5 : Int32) (y0 : Int32) (h : Hp) {x_ : (Int32 × Int32 × Int32 × Hp) ⊕ (Int32 × Int32 × Hp)} (hE : K_M_calls_J151 N x2 x4 x5 y0 h = some x_) (hk1 : ∀ z_, x_ = .inl z_ → G p l e rm_M_calls s m args below meth c K A WM 7 0 0 Q 103 [(0, .ref (ad 100)), (2, .int x2), (3, .int z_.1), (4, .int z_.2.1), (5, .int z_.2.2.1)] [] ad z_.2.2.2) (hk3 : ∀ z_, x_ = .inr z_ → G p l e rm_M_calls s m args below meth c K A WM 7 0 0 Q 158 [(2, .int x2), (3, .int z_.1), (4, .int z_.2.1)] [] ad z_.2.2) : G p l e rm_M_calls s m args below meth c K A WM 7 0 0 Q 151 [(0, .ref (ad 100)), (2, .int x2), (4, .int x4), (5, .int x5)] [.int y0] ad h := by
  unfold K_M_calls_J151 at hE
  refine g_istore_n C0 [(3, .int y0), (0, .ref (ad 100)), (2, .int x2), (4, .int x4), (5, .int x5)] d_M_calls_151 rfl (by decide) rfl ?_
  obtain ⟨v152, e152, hE⟩ := nm_some hE
  refine g_iinc C0 4 [(5, .int v152), (3, .int y0), (0, .ref (ad 100)), (2, .int x2), (4, .int x4)] d_M_calls_152 rfl (by rw [e152]; rfl) (by decide) rfl ?_
  refine g_goto C0 (tgt := 103) d_M_calls_155 (by decide) ?_
  refine g_sub [2, 3, 1, 4, 0] (L' := [(0, .ref (ad 100)), (2, .int x2), (3, .int y0), (4, .int x4), (5, .int v152)]) rfl ?_
  exact hk1 _ (Option.some.inj hE).symm
theorem w_M_calls_J137 {p : Program} {l : Launch} {e : Env} {s : State} {m : MethodId} {args : Array Value} {below : List Frame} {meth : Method} {c : Code} {K : KT} {A : Nat → Prop} {Q : State → Prop} (C0 : Cx p s m args meth c prog_13_method_61_code "CanoeSidesModel" 7 K A) (hr : meth.sig.returnType = (Option.some Jvm.ClassFile.FieldType.int)) {ad : Nat → Nat} (N : Nat) (x2 : Int32) (x3 : Int32) (x5 : Int32) (x6 : Int32) (y0 : Int32) (h : Hp) {x_ : (Int32 × Int32 × Int32 × Hp) ⊕ (Int32 × Int32 × Hp)} (hE : K_M_calls_J137 N x2 x3 x5 x6 y0 h = some x_) (hk1 : ∀ z_, x_ = .inl z_ → G p l e rm_M_calls s m args below meth c K A WM 7 0 0 Q 103 [(0, .ref (ad 100)), (2, .int x2), (3, .int z_.1), (4, .int z_.2.1), (5, .int z_.2.2.1)] [] ad z_.2.2.2) (hk3 : ∀ z_, x_ = .inr z_ → G p l e rm_M_calls s m args below meth c K A WM 7 0 0 Q 158 [(2, .int x2), (3, .int z_.1), (4, .int z_.2.1)] [] ad z_.2.2) : G p l e rm_M_calls s m args below meth c K A WM 7 0 0 Q 137 [(0, .ref (ad 100)), (2, .int x2), (3, .int x3), (5, .int x5), (6, .int x6)] [.int y0] ad h := by
  unfold K_M_calls_J137 at hE
  refine g_istore C0 [(4, .int y0), (0, .ref (ad 100)), (2, .int x2), (3, .int x3), (5, .int x5), (6, .int x6)] d_M_calls_137 (by decide) rfl ?_
  refine g_iload C0 5 d_M_calls_139 rfl ?_
  refine g_iload_n C0 3 d_M_calls_141 rfl rfl ?_
  have hB := ite_some hE
  refine g_icmp_ge C0 (tgt := 150) d_M_calls_142 (by decide) (fun c_ => ?_) (fun c_ => ?_)
  · replace hE := hB.1 c_
    refine g_iload_n C0 3 d_M_calls_150 rfl rfl ?_
    refine g_sub [1, 2, 0, 4] (L' := [(0, .ref (ad 100)), (2, .int x2), (4, .int y0), (5, .int x5)]) rfl ?_
    exact w_M_calls_J151 C0 hr N x2 y0 x5 x3 h hE hk1 hk3
  · replace hE := hB.2 c_
    refine g_iload C0 5 d_M_calls_145 rfl ?_
    refine g_goto C0 (tgt := 151) d_M_calls_147 (by decide) ?_
    refine g_sub [1, 2, 0, 4] (L' := [(0, .ref (ad 100)), (2, .int x2), (4, .int y0), (5, .int x5)]) rfl ?_
    exact w_M_calls_J151 C0 hr N x2 y0 x5 x6 h hE hk1 hk3
theorem w_M_calls_L103 {p : Program} {l : Launch} {e : Env} {s : State} {m : MethodId} {args : Array Value} {below : List Frame} {meth : Method} {c : Code} {K : KT} {A : Nat → Prop} {Q : State → Prop} (C0 : Cx p s m args meth c prog_13_method_61_code "CanoeSidesModel" 7 K A) (hr : meth.sig.returnType = (Option.some Jvm.ClassFile.FieldType.int)) {ad : Nat → Nat} (N : Nat) (x2 : Int32) (x3 : Int32) (x4 : Int32) (x5 : Int32) (h : Hp) {x_ : (Int32 × Int32 × Int32 × Hp) ⊕ (Int32 × Int32 × Hp)} (hE : K_M_calls_L103 N x2 x3 x4 x5 h = some x_) (hk1 : ∀ z_, x_ = .inl z_ → G p l e rm_M_calls s m args below meth c K A WM 7 0 0 Q 103 [(0, .ref (ad 100)), (2, .int x2), (3, .int z_.1), (4, .int z_.2.1), (5, .int z_.2.2.1)] [] ad z_.2.2.2) (hk3 : ∀ z_, x_ = .inr z_ → G p l e rm_M_calls s m args below meth c K A WM 7 0 0 Q 158 [(2, .int x2), (3, .int z_.1), (4, .int z_.2.1)] [] ad z_.2.2) : G p l e rm_M_calls s m args below meth c K A WM 7 0 0 Q 103 [(0, .ref (ad 100)), (2, .int x2), (3, .int x3), (4, .int x4), (5, .int x5)] [] ad h := by
  unfold K_M_calls_L103 at hE
  refine g_iload C0 4 d_M_calls_103 rfl ?_
  refine g_bipush C0 (v := 60) d_M_calls_105 (by decide) ?_
  have hB := ite_some hE
  refine g_icmp_gt C0 (tgt := 158) d_M_calls_107 (by decide) (fun c_ => ?_) (fun c_ => ?_)
  · replace hE := hB.1 c_
    refine g_sub [1, 2, 3] (L' := [(2, .int x2), (3, .int x3), (4, .int x4)]) rfl ?_
    exact hk3 _ (Option.some.inj hE).symm
  · replace hE := hB.2 c_
    refine g_iload_n C0 2 d_M_calls_110 rfl rfl ?_
    have hB := ite_some hE
    refine g_if_le C0 (tgt := 158) d_M_calls_111 (by decide) (fun c_ => ?_) (fun c_ => ?_)
    · replace hE := hB.1 c_
      refine g_sub [1, 2, 3] (L' := [(2, .int x2), (3, .int x3), (4, .int x4)]) rfl ?_
      exact hk3 _ (Option.some.inj hE).symm
    · replace hE := hB.2 c_
      refine g_aload_n C0 0 d_M_calls_114 rfl rfl ?_
      obtain ⟨h115, z115, hE⟩ := bd_some hE
      refine g_callv C0 nd_M [100, 101, 102, 103, 104, 105, 106, 107, 108, 109, 110, 111, 112, 113, 114, 115] rfl (sbW_self WM) (runV C0 (m_M_callOn l K ad h N z115) 0 rfl ⟨t_1428, t_1430, t_73, t_97, t_1431⟩ cd_M_callOn (by decide) 0 rfl rfl (sbW_self WM) nd_M rfl rfl (Nat.le_of_ble_eq_true rfl) d_M_calls_115) ?_
      refine g_mx [100, 101, 102, 103, 104, 105, 106, 107, 108, 109, 110, 111, 112, 113, 114, 115] rfl ?_
      refine g_aload_n C0 0 d_M_calls_118 rfl rfl ?_
      obtain ⟨v119, z119, hE⟩ := bd_some hE
      refine g_calliP C0 nd_M [100, 101, 102, 103, 104, 105, 106, 107, 108, 109, 110, 111, 112, 113, 114, 115] rfl (sbW_self WM) (runV C0 (m_M_leastCalled l K ad h115 N z119) 0 rfl ⟨t_1424, t_1426, t_72, t_97, t_1427⟩ cd_M_leastCalled (by decide) 0 rfl rfl (sbW_self WM) nd_M rfl rfl (Nat.le_of_ble_eq_true rfl) d_M_calls_119) ?_
      refine g_istore C0 [(6, .int v119), (0, .ref (ad 100)), (2, .int x2), (3, .int x3), (4, .int x4), (5, .int x5)] d_M_calls_122 (by decide) rfl ?_
      refine g_iload C0 0 d_M_calls_124 rfl ?_
      refine g_iload_n C0 3 d_M_calls_126 rfl rfl ?_
      have hB := ite_some hE
      refine g_icmp_ge C0 (tgt := 135) d_M_calls_127 (by decide) (fun c_ => ?_) (fun c_ => ?_)
      · replace hE := hB.1 c_
        refine g_iload C0 4 d_M_calls_135 rfl ?_
        refine g_sub [1, 2, 3, 5, 0] (L' := [(0, .ref (ad 100)), (2, .int x2), (3, .int x3), (5, .int x5), (6, .int v119)]) rfl ?_
        exact w_M_calls_J137 C0 hr N x2 x3 x5 v119 x4 h115 hE hk1 hk3
      · replace hE := hB.2 c_
        refine g_iload C0 5 d_M_calls_130 rfl ?_
        refine g_goto C0 (tgt := 137) d_M_calls_132 (by decide) ?_
        refine g_sub [1, 2, 3, 5, 0] (L' := [(0, .ref (ad 100)), (2, .int x2), (3, .int x3), (5, .int x5), (6, .int v119)]) rfl ?_
        exact w_M_calls_J137 C0 hr N x2 x3 x5 v119 x5 h115 hE hk1 hk3
theorem w_M_calls_J158 {p : Program} {l : Launch} {e : Env} {s : State} {m : MethodId} {args : Array Value} {below : List Frame} {meth : Method} {c : Code} {K : KT} {A : Nat → Prop} (C0 : Cx p s m args meth c prog_13_method_61_code "CanoeSidesModel" 7 K A) (hr : meth.sig.returnType = (Option.some Jvm.ClassFile.FieldType.int)) {ad : Nat → Nat} (N : Nat) (x2 : Int32) (x3 : Int32) (x4 : Int32) (h : Hp) {res : Int32 × Hp} (hE : K_M_calls_J158 N x2 x3 x4 h = some res) : G p l e rm_M_calls s m args below meth c K A WM 7 0 0 (QI s args below K A WM 0 0 ad res.1 res.2) 158 [(2, .int x2), (3, .int x3), (4, .int x4)] [] ad h := by
  unfold K_M_calls_J158 at hE
  refine g_iload_n C0 1 d_M_calls_158 rfl rfl ?_
  refine g_ldc C0 (v := 99999999) t_1393 d_M_calls_159 ?_
  have hB := ite_some hE
  refine g_icmp_ne C0 (tgt := 168) d_M_calls_161 (by decide) (fun c_ => ?_) (fun c_ => ?_)
  · replace hE := hB.2 c_
    refine g_iload_n C0 0 d_M_calls_168 rfl rfl ?_
    have hB := ite_some hE
    refine g_if_ne C0 (tgt := 176) d_M_calls_169 (by decide) (fun c_ => ?_) (fun c_ => ?_)
    · replace hE := hB.2 c_
      refine g_iload C0 2 d_M_calls_176 rfl ?_
      obtain rfl := Option.some.inj hE
      exact g_iret C0 hr d_M_calls_178
    · replace hE := hB.1 c_
      refine g_iload_n C0 1 d_M_calls_172 rfl rfl ?_
      refine g_goto C0 (tgt := 178) d_M_calls_173 (by decide) ?_
      obtain rfl := Option.some.inj hE
      exact g_iret C0 hr d_M_calls_178
  · replace hE := hB.1 c_
    refine g_iconst C0 (v := (-1)) d_M_calls_164 (by decide) ?_
    refine g_goto C0 (tgt := 178) d_M_calls_165 (by decide) ?_
    obtain rfl := Option.some.inj hE
    exact g_iret C0 hr d_M_calls_178
theorem w_M_calls_J98 {p : Program} {l : Launch} {e : Env} {s : State} {m : MethodId} {args : Array Value} {below : List Frame} {meth : Method} {c : Code} {K : KT} {A : Nat → Prop} (C0 : Cx p s m args meth c prog_13_method_61_code "CanoeSidesModel" 7 K A) (hr : meth.sig.returnType = (Option.some Jvm.ClassFile.FieldType.int)) {ad : Nat → Nat} (N : Nat) (x2 : Int32) (x3 : Int32) (y0 : Int32) (h : Hp) {res : Int32 × Hp} (hE : K_M_calls_J98 N x2 x3 y0 h = some res) : G p l e rm_M_calls s m args below meth c K A WM 7 0 0 (QI s args below K A WM 0 0 ad res.1 res.2) 98 [(0, .ref (ad 100)), (2, .int x2), (3, .int x3)] [.int y0] ad h := by
  unfold K_M_calls_J98 at hE
  refine g_istore C0 [(4, .int y0), (0, .ref (ad 100)), (2, .int x2), (3, .int x3)] d_M_calls_98 (by decide) rfl ?_
  refine g_iconst C0 (v := 1) d_M_calls_100 (by decide) ?_
  refine g_istore C0 [(5, .int 1), (4, .int y0), (0, .ref (ad 100)), (2, .int x2), (3, .int x3)] d_M_calls_101 (by decide) rfl ?_
  refine g_sub [2, 3, 4, 1, 0] (L' := [(0, .ref (ad 100)), (2, .int x2), (3, .int x3), (4, .int y0), (5, .int 1)]) rfl ?_
  obtain ⟨t103, z103, hE⟩ := bd_some hE
  refine loopG (fun z_ : Int32 × Int32 × Int32 × Hp => K_M_calls_L103 N x2 z_.1 z_.2.1 z_.2.2.1 z_.2.2.2) (fun z_ : Int32 × Int32 × Int32 × Hp => G p l e rm_M_calls s m args below meth c K A WM 7 0 0 _ 103 [(0, .ref (ad 100)), (2, .int x2), (3, .int z_.1), (4, .int z_.2.1), (5, .int z_.2.2.1)] [] ad z_.2.2.2) (fun z_ : Int32 × Int32 × Hp => G p l e rm_M_calls s m args below meth c K A WM 7 0 0 _ 158 [(2, .int x2), (3, .int z_.1), (4, .int z_.2.1)] [] ad z_.2.2) (fun z_ x_ hz k1 k2 => w_M_calls_L103 C0 hr N x2 z_.1 z_.2.1 z_.2.2.1 z_.2.2.2 hz k1 k2) _ _ _ z103 ?_
  try dsimp only
  exact w_M_calls_J158 C0 hr N x2 t103.1 t103.2.1 t103.2.2 hE
theorem w_M_calls {p : Program} {l : Launch} {e : Env} {s : State} {m : MethodId} {args : Array Value} {below : List Frame} {meth : Method} {c : Code} {K : KT} {A : Nat → Prop} (C0 : Cx p s m args meth c prog_13_method_61_code "CanoeSidesModel" 7 K A) (hr : meth.sig.returnType = (Option.some Jvm.ClassFile.FieldType.int)) {ad : Nat → Nat} (N : Nat) (a0 : Int32) (b0 : Int32) (h : Hp) {res : Int32 × Hp} (hE : K_M_calls N a0 b0 h = some res) : G p l e rm_M_calls s m args below meth c K A WM 7 0 0 (QI s args below K A WM 0 0 ad res.1 res.2) 0 [(0, .ref (ad 100)), (1, .int a0), (2, .int b0)] [] ad h := by
  unfold K_M_calls at hE
  refine g_iload_n C0 1 d_M_calls_0 rfl rfl ?_
  refine g_i2l C0 d_M_calls_1 ?_
  refine g_lconst C0 (v := 0) d_M_calls_2 (by decide) ?_
  refine g_ldc2 C0 (v := 15) t_1423 d_M_calls_3 ?_
  obtain ⟨v6, z6, hE⟩ := bd_some hE
  refine g_calliP C0 nd_M [] rfl (sb_E_M) (runS C0 (m_M_in l K ad h (Int32.toInt64 a0) 0 15 z6) 3 ⟨t_1196, t_1197, t_97, t_1198⟩ cd_M_in (by decide) (sb_E_M) nd_E rfl rfl (Nat.le_of_ble_eq_true rfl) d_M_calls_6) ?_
  have hB := ite_some hE
  refine g_if_eq C0 (tgt := 22) d_M_calls_9 (by decide) (fun c_ => ?_) (fun c_ => ?_)
  · replace hE := hB.1 c_
    refine g_ldc C0 (v := (-1000000002)) t_1199 d_M_calls_22 ?_
    obtain rfl := Option.some.inj hE
    exact g_iret C0 hr d_M_calls_24
  · replace hE := hB.2 c_
    refine g_iload_n C0 2 d_M_calls_12 rfl rfl ?_
    refine g_i2l C0 d_M_calls_13 ?_
    refine g_lconst C0 (v := 0) d_M_calls_14 (by decide) ?_
    refine g_lconst C0 (v := 1) d_M_calls_15 (by decide) ?_
    obtain ⟨v16, z16, hE⟩ := bd_some hE
    refine g_calliP C0 nd_M [] rfl (sb_E_M) (runS C0 (m_M_in l K ad h (Int32.toInt64 b0) 0 1 z16) 3 ⟨t_1196, t_1197, t_97, t_1198⟩ cd_M_in (by decide) (sb_E_M) nd_E rfl rfl (Nat.le_of_ble_eq_true rfl) d_M_calls_16) ?_
    have hB := ite_some hE
    refine g_if_ne C0 (tgt := 25) d_M_calls_19 (by decide) (fun c_ => ?_) (fun c_ => ?_)
    · replace hE := hB.2 c_
      refine g_aload_n C0 0 d_M_calls_25 rfl rfl ?_
      obtain ⟨v26, z26, hE⟩ := bd_some hE
      refine g_calliP C0 nd_M [100, 101, 102, 103, 104, 105, 106, 107, 108, 109, 110, 111, 112, 113, 114, 115] rfl (sbW_self WM) (runV C0 (m_M_isNone l K ad h z26) 0 rfl ⟨t_1264, t_1266, t_51, t_97, t_1267⟩ cd_M_isNone (by decide) 0 rfl rfl (sbW_self WM) nd_M rfl rfl (Nat.le_of_ble_eq_true rfl) d_M_calls_26) ?_
      have hB := ite_some hE
      refine g_if_eq C0 (tgt := 35) d_M_calls_29 (by decide) (fun c_ => ?_) (fun c_ => ?_)
      · replace hE := hB.1 c_
        refine g_aload_n C0 0 d_M_calls_35 rfl rfl ?_
        refine g_iconst C0 (v := 0) d_M_calls_36 (by decide) ?_
        obtain ⟨h37, e37, hE⟩ := nm_some hE
        refine g_puti C0 CK_11 CT_11 12 (by decide) t_1102 rfl (by decide +kernel) nd_M 0 rfl rfl d_M_calls_37 ?_
        refine g_heap e37 ?_
        refine g_iconst C0 (v := 0) d_M_calls_40 (by decide) ?_
        refine g_istore_n C0 [(3, .int 0), (0, .ref (ad 100)), (1, .int a0), (2, .int b0)] d_M_calls_41 rfl (by decide) rfl ?_
        refine g_sub [1, 2, 3, 0] (L' := [(0, .ref (ad 100)), (1, .int a0), (2, .int b0), (3, .int 0)]) rfl ?_
        obtain ⟨t42, z42, hE⟩ := bd_some hE
        refine loopG (fun z_ : Int32 × Hp => K_M_calls_L42 N a0 b0 z_.1 z_.2) (fun z_ : Int32 × Hp => G p l e rm_M_calls s m args below meth c K A WM 7 0 0 _ 42 [(0, .ref (ad 100)), (1, .int a0), (2, .int b0), (3, .int z_.1)] [] ad z_.2) (fun z_ : Hp => G p l e rm_M_calls s m args below meth c K A WM 7 0 0 _ 67 [(0, .ref (ad 100)), (1, .int a0), (2, .int b0)] [] ad z_) (fun z_ x_ hz k1 k2 => w_M_calls_L42 C0 hr N a0 b0 z_.1 z_.2 hz k1 k2) _ _ _ z42 ?_
        try dsimp only
        refine g_aload_n C0 0 d_M_calls_67 rfl rfl ?_
        refine g_getr C0 CK_11 20 (by decide) t_1110 0 rfl rfl d_M_calls_68 ?_
        refine g_bipush C0 (v := 16) d_M_calls_71 (by decide) ?_
        refine g_aload_n C0 0 d_M_calls_73 rfl rfl ?_
        obtain ⟨v74, z74, hE⟩ := bd_some hE
        refine g_calliP C0 nd_M [100, 101, 102, 103, 104, 105, 106, 107, 108, 109, 110, 111, 112, 113, 114, 115] rfl (sbW_self WM) (runV C0 (m_M_stateNow l K ad t42 z74) 0 rfl ⟨t_1406, t_1408, t_71, t_97, t_1409⟩ cd_M_stateNow (by decide) 0 rfl rfl (sbW_self WM) nd_M rfl rfl (Nat.le_of_ble_eq_true rfl) d_M_calls_74) ?_
        refine g_imul C0 d_M_calls_77 ?_
        refine g_iload_n C0 1 d_M_calls_78 rfl rfl ?_
        refine g_iadd C0 d_M_calls_79 ?_
        refine g_iconst C0 (v := 0) d_M_calls_80 (by decide) ?_
        obtain ⟨q81, hE⟩ := sA_some hE
        obtain ⟨h81, e81, hE⟩ := nm_some hE
        refine g_iast C0 9 rfl nd_M q81 d_M_calls_81 ?_
        refine g_heap e81 ?_
        refine g_aload_n C0 0 d_M_calls_82 rfl rfl ?_
        obtain ⟨v83, z83, hE⟩ := bd_some hE
        refine g_calliP C0 nd_M [100, 101, 102, 103, 104, 105, 106, 107, 108, 109, 110, 111, 112, 113, 114, 115] rfl (sbW_self WM) (runV C0 (m_M_leastCalled l K ad h81 N z83) 0 rfl ⟨t_1424, t_1426, t_72, t_97, t_1427⟩ cd_M_leastCalled (by decide) 0 rfl rfl (sbW_self WM) nd_M rfl rfl (Nat.le_of_ble_eq_true rfl) d_M_calls_83) ?_
        refine g_istore_n C0 [(3, .int v83), (0, .ref (ad 100)), (1, .int a0), (2, .int b0)] d_M_calls_86 rfl (by decide) rfl ?_
        refine g_iload_n C0 0 d_M_calls_87 rfl rfl ?_
        refine g_ldc C0 (v := 99999999) t_1393 d_M_calls_88 ?_
        have hB := ite_some hE
        refine g_icmp_ne C0 (tgt := 97) d_M_calls_90 (by decide) (fun c_ => ?_) (fun c_ => ?_)
        · replace hE := hB.2 c_
          refine g_iconst C0 (v := 0) d_M_calls_97 (by decide) ?_
          refine g_sub [1, 3, 0] (L' := [(0, .ref (ad 100)), (2, .int b0), (3, .int v83)]) rfl ?_
          exact w_M_calls_J98 C0 hr N b0 v83 0 h81 hE
        · replace hE := hB.1 c_
          refine g_iconst C0 (v := (-1)) d_M_calls_93 (by decide) ?_
          refine g_goto C0 (tgt := 98) d_M_calls_94 (by decide) ?_
          refine g_sub [1, 3, 0] (L' := [(0, .ref (ad 100)), (2, .int b0), (3, .int v83)]) rfl ?_
          exact w_M_calls_J98 C0 hr N b0 v83 (-1) h81 hE
      · replace hE := hB.2 c_
        refine g_ldc C0 (v := (-1000000003)) t_1296 d_M_calls_32 ?_
        obtain rfl := Option.some.inj hE
        exact g_iret C0 hr d_M_calls_34
    · replace hE := hB.1 c_
      refine g_ldc C0 (v := (-1000000002)) t_1199 d_M_calls_22 ?_
      obtain rfl := Option.some.inj hE
      exact g_iret C0 hr d_M_calls_24
theorem m_M_calls (l : Launch) (K : KT) (ad : Nat → Nat) (h : Hp) (N : Nat) (a0 : Int32) (b0 : Int32) {res : Int32 × Hp} (hE : K_M_calls N a0 b0 h = some res) : ConI l y_M_calls prog_13_method_61_code 7 (Option.some Jvm.ClassFile.FieldType.int) rm_M_calls K WM ad h [.ref (ad 100), .int a0, .int b0] res.1 res.2 := fun sz =>
  con_start [(0, .ref (ad 100)), (1, .int a0), (2, .int b0)] (by decide +kernel) rfl (Nat.le_of_ble_eq_true rfl) (fun p e s m args below meth c C0 hr hnm hsz => w_M_calls C0 hr N a0 b0 h hE)
abbrev y_M_afterMute : MethodName := ⟨"CanoeSidesModel", "afterMute", "(I)I"⟩
abbrev rm_M_afterMute : Room := { frames := 6, cells := 0, slots := 0, locals := 147 }
theorem cd_M_afterMute : cwd y_M_afterMute 1 := by decide +kernel
theorem d_M_afterMute_0 : decode prog_13_method_62_code 0 = .ok (.iload_n 1, 1) := by decide +kernel
theorem d_M_afterMute_1 : decode prog_13_method_62_code 1 = .ok (.bipush 16, 2) := by decide +kernel
theorem d_M_afterMute_3 : decode prog_13_method_62_code 3 = .ok (.irem, 1) := by decide +kernel
theorem d_M_afterMute_4 : decode prog_13_method_62_code 4 = .ok (.istore_n 2, 1) := by decide +kernel
theorem d_M_afterMute_5 : decode prog_13_method_62_code 5 = .ok (.aload_n 0, 1) := by decide +kernel
theorem d_M_afterMute_6 : decode prog_13_method_62_code 6 = .ok (.iload_n 1, 1) := by decide +kernel
theorem d_M_afterMute_7 : decode prog_13_method_62_code 7 = .ok (.bipush 16, 2) := by decide +kernel
theorem d_M_afterMute_9 : decode prog_13_method_62_code 9 = .ok (.idiv, 1) := by decide +kernel
theorem d_M_afterMute_10 : decode prog_13_method_62_code 10 = .ok (.iload_n 2, 1) := by decide +kernel
theorem d_M_afterMute_11 : decode prog_13_method_62_code 11 = .ok (.iconst 4, 1) := by decide +kernel
theorem d_M_afterMute_12 : decode prog_13_method_62_code 12 = .ok (.idiv, 1) := by decide +kernel
theorem d_M_afterMute_13 : decode prog_13_method_62_code 13 = .ok (.iload_n 2, 1) := by decide +kernel
theorem d_M_afterMute_14 : decode prog_13_method_62_code 14 = .ok (.iconst 4, 1) := by decide +kernel
theorem d_M_afterMute_15 : decode prog_13_method_62_code 15 = .ok (.irem, 1) := by decide +kernel
theorem d_M_afterMute_16 : decode prog_13_method_62_code 16 = .ok (.invokevirtual 247, 3) := by decide +kernel
theorem d_M_afterMute_19 : decode prog_13_method_62_code 19 = .ok (.istore_n 3, 1) := by decide +kernel
theorem d_M_afterMute_20 : decode prog_13_method_62_code 20 = .ok (.bipush 16, 2) := by decide +kernel
theorem d_M_afterMute_22 : decode prog_13_method_62_code 22 = .ok (.iload_n 3, 1) := by decide +kernel
theorem d_M_afterMute_23 : decode prog_13_method_62_code 23 = .ok (.imul, 1) := by decide +kernel
theorem d_M_afterMute_24 : decode prog_13_method_62_code 24 = .ok (.iconst 4, 1) := by decide +kernel
theorem d_M_afterMute_25 : decode prog_13_method_62_code 25 = .ok (.aload_n 0, 1) := by decide +kernel
theorem d_M_afterMute_26 : decode prog_13_method_62_code 26 = .ok (.getfield 23, 3) := by decide +kernel
theorem d_M_afterMute_29 : decode prog_13_method_62_code 29 = .ok (.iload_n 2, 1) := by decide +kernel
theorem d_M_afterMute_30 : decode prog_13_method_62_code 30 = .ok (.iconst 4, 1) := by decide +kernel
theorem d_M_afterMute_31 : decode prog_13_method_62_code 31 = .ok (.irem, 1) := by decide +kernel
theorem d_M_afterMute_32 : decode prog_13_method_62_code 32 = .ok (.iaload, 1) := by decide +kernel
theorem d_M_afterMute_33 : decode prog_13_method_62_code 33 = .ok (.imul, 1) := by decide +kernel
theorem d_M_afterMute_34 : decode prog_13_method_62_code 34 = .ok (.iadd, 1) := by decide +kernel
theorem d_M_afterMute_35 : decode prog_13_method_62_code 35 = .ok (.aload_n 0, 1) := by decide +kernel
theorem d_M_afterMute_36 : decode prog_13_method_62_code 36 = .ok (.getfield 23, 3) := by decide +kernel
theorem d_M_afterMute_39 : decode prog_13_method_62_code 39 = .ok (.iconst 4, 1) := by decide +kernel
theorem d_M_afterMute_40 : decode prog_13_method_62_code 40 = .ok (.iload_n 2, 1) := by decide +kernel
theorem d_M_afterMute_41 : decode prog_13_method_62_code 41 = .ok (.iconst 4, 1) := by decide +kernel
theorem d_M_afterMute_42 : decode prog_13_method_62_code 42 = .ok (.idiv, 1) := by decide +kernel
theorem d_M_afterMute_43 : decode prog_13_method_62_code 43 = .ok (.iadd, 1) := by decide +kernel
theorem d_M_afterMute_44 : decode prog_13_method_62_code 44 = .ok (.iaload, 1) := by decide +kernel
theorem d_M_afterMute_45 : decode prog_13_method_62_code 45 = .ok (.iadd, 1) := by decide +kernel
theorem d_M_afterMute_46 : decode prog_13_method_62_code 46 = .ok (.ireturn, 1) := by decide +kernel
theorem w_M_afterMute {p : Program} {l : Launch} {e : Env} {s : State} {m : MethodId} {args : Array Value} {below : List Frame} {meth : Method} {c : Code} {K : KT} {A : Nat → Prop} (C0 : Cx p s m args meth c prog_13_method_62_code "CanoeSidesModel" 4 K A) (hr : meth.sig.returnType = (Option.some Jvm.ClassFile.FieldType.int)) {ad : Nat → Nat} (N : Nat) (a0 : Int32) (h : Hp) {res : Int32 × Hp} (hE : K_M_afterMute N a0 h = some res) : G p l e rm_M_afterMute s m args below meth c K A WM 4 0 0 (QI s args below K A WM 0 0 ad res.1 res.2) 0 [(0, .ref (ad 100)), (1, .int a0)] [] ad h := by
  unfold K_M_afterMute at hE
  refine g_iload_n C0 1 d_M_afterMute_0 rfl rfl ?_
  refine g_bipush C0 (v := 16) d_M_afterMute_1 (by decide) ?_
  refine g_irem C0 d_M_afterMute_3 (by decide) ?_
  obtain ⟨v4, e4, hE⟩ := nm_some hE
  refine g_top e4 ?_
  refine g_istore_n C0 [(2, .int v4), (0, .ref (ad 100)), (1, .int a0)] d_M_afterMute_4 rfl (by decide) rfl ?_
  refine g_aload_n C0 1 d_M_afterMute_5 rfl rfl ?_
  refine g_iload_n C0 2 d_M_afterMute_6 rfl rfl ?_
  refine g_bipush C0 (v := 16) d_M_afterMute_7 (by decide) ?_
  refine g_idiv C0 d_M_afterMute_9 (by decide) ?_
  refine g_iload_n C0 0 d_M_afterMute_10 rfl rfl ?_
  refine g_iconst C0 (v := 4) d_M_afterMute_11 (by decide) ?_
  refine g_idiv C0 d_M_afterMute_12 (by decide) ?_
  refine g_iload_n C0 0 d_M_afterMute_13 rfl rfl ?_
  refine g_iconst C0 (v := 4) d_M_afterMute_14 (by decide) ?_
  refine g_irem C0 d_M_afterMute_15 (by decide) ?_
  obtain ⟨v16, h16, z16, hE⟩ := bd2_some hE
  refine g_calli C0 nd_M [100, 101, 102, 103, 104, 105, 106, 107, 108, 109, 110, 111, 112, 113, 114, 115] rfl (sbW_self WM) (runV C0 (m_M_after l K ad h N (a0 / 16) (v4 / 4) (rm32 v4 4) z16) 3 rfl ⟨t_1398, t_1400, t_69, t_97, t_1401⟩ cd_M_after (by decide) 0 rfl rfl (sbW_self WM) nd_M rfl rfl (Nat.le_of_ble_eq_true rfl) d_M_afterMute_16) ?_
  refine g_mx [100, 101, 102, 103, 104, 105, 106, 107, 108, 109, 110, 111, 112, 113, 114, 115] rfl ?_
  refine g_istore_n C0 [(3, .int v16), (2, .int v4), (0, .ref (ad 100)), (1, .int a0)] d_M_afterMute_19 rfl (by decide) rfl ?_
  refine g_bipush C0 (v := 16) d_M_afterMute_20 (by decide) ?_
  refine g_iload_n C0 0 d_M_afterMute_22 rfl rfl ?_
  refine g_imul C0 d_M_afterMute_23 ?_
  refine g_iconst C0 (v := 4) d_M_afterMute_24 (by decide) ?_
  refine g_aload_n C0 2 d_M_afterMute_25 rfl rfl ?_
  refine g_getr C0 CK_11 4 (by decide) t_1094 0 rfl rfl d_M_afterMute_26 ?_
  refine g_iload_n C0 1 d_M_afterMute_29 rfl rfl ?_
  refine g_iconst C0 (v := 4) d_M_afterMute_30 (by decide) ?_
  refine g_irem C0 d_M_afterMute_31 (by decide) ?_
  obtain ⟨q32, v32, e32, hE⟩ := gA_some hE
  refine g_iald C0 5 rfl q32 d_M_afterMute_32 ?_
  refine g_top e32 ?_
  refine g_imul C0 d_M_afterMute_33 ?_
  refine g_iadd C0 d_M_afterMute_34 ?_
  refine g_aload_n C0 2 d_M_afterMute_35 rfl rfl ?_
  refine g_getr C0 CK_11 4 (by decide) t_1094 0 rfl rfl d_M_afterMute_36 ?_
  refine g_iconst C0 (v := 4) d_M_afterMute_39 (by decide) ?_
  refine g_iload_n C0 1 d_M_afterMute_40 rfl rfl ?_
  refine g_iconst C0 (v := 4) d_M_afterMute_41 (by decide) ?_
  refine g_idiv C0 d_M_afterMute_42 (by decide) ?_
  refine g_iadd C0 d_M_afterMute_43 ?_
  obtain ⟨q44, v44, e44, hE⟩ := gA_some hE
  refine g_iald C0 5 rfl q44 d_M_afterMute_44 ?_
  refine g_top e44 ?_
  refine g_iadd C0 d_M_afterMute_45 ?_
  obtain rfl := Option.some.inj hE
  exact g_iret C0 hr d_M_afterMute_46
theorem m_M_afterMute (l : Launch) (K : KT) (ad : Nat → Nat) (h : Hp) (N : Nat) (a0 : Int32) {res : Int32 × Hp} (hE : K_M_afterMute N a0 h = some res) : ConI l y_M_afterMute prog_13_method_62_code 4 (Option.some Jvm.ClassFile.FieldType.int) rm_M_afterMute K WM ad h [.ref (ad 100), .int a0] res.1 res.2 := fun sz =>
  con_start [(0, .ref (ad 100)), (1, .int a0)] (by decide +kernel) rfl (Nat.le_of_ble_eq_true rfl) (fun p e s m args below meth c C0 hr hnm hsz => w_M_afterMute C0 hr N a0 h hE)
abbrev y_M_mute : MethodName := ⟨"CanoeSidesModel", "mute", "(III)I"⟩
abbrev rm_M_mute : Room := { frames := 7, cells := 0, slots := 0, locals := 170 }
theorem cd_M_mute : cwd y_M_mute 3 := by decide +kernel
theorem d_M_mute_0 : decode prog_13_method_63_code 0 = .ok (.iload_n 1, 1) := by decide +kernel
theorem d_M_mute_1 : decode prog_13_method_63_code 1 = .ok (.i2l, 1) := by decide +kernel
theorem d_M_mute_2 : decode prog_13_method_63_code 2 = .ok (.lconst 0, 1) := by decide +kernel
theorem d_M_mute_3 : decode prog_13_method_63_code 3 = .ok (.ldc2_w 270, 3) := by decide +kernel
theorem d_M_mute_6 : decode prog_13_method_63_code 6 = .ok (.invokestatic 67, 3) := by decide +kernel
theorem d_M_mute_9 : decode prog_13_method_63_code 9 = .ok (.ifCond .eq 27, 3) := by decide +kernel
theorem d_M_mute_12 : decode prog_13_method_63_code 12 = .ok (.iload_n 2, 1) := by decide +kernel
theorem d_M_mute_13 : decode prog_13_method_63_code 13 = .ok (.i2l, 1) := by decide +kernel
theorem d_M_mute_14 : decode prog_13_method_63_code 14 = .ok (.lconst 0, 1) := by decide +kernel
theorem d_M_mute_15 : decode prog_13_method_63_code 15 = .ok (.ldc2_w 229, 3) := by decide +kernel
theorem d_M_mute_18 : decode prog_13_method_63_code 18 = .ok (.invokestatic 67, 3) := by decide +kernel
theorem d_M_mute_21 : decode prog_13_method_63_code 21 = .ok (.ifCond .eq 15, 3) := by decide +kernel
theorem d_M_mute_24 : decode prog_13_method_63_code 24 = .ok (.iload_n 3, 1) := by decide +kernel
theorem d_M_mute_25 : decode prog_13_method_63_code 25 = .ok (.i2l, 1) := by decide +kernel
theorem d_M_mute_26 : decode prog_13_method_63_code 26 = .ok (.lconst 0, 1) := by decide +kernel
theorem d_M_mute_27 : decode prog_13_method_63_code 27 = .ok (.ldc2_w 278, 3) := by decide +kernel
theorem d_M_mute_30 : decode prog_13_method_63_code 30 = .ok (.invokestatic 67, 3) := by decide +kernel
theorem d_M_mute_33 : decode prog_13_method_63_code 33 = .ok (.ifCond .ne 6, 3) := by decide +kernel
theorem d_M_mute_36 : decode prog_13_method_63_code 36 = .ok (.ldc 71, 2) := by decide +kernel
theorem d_M_mute_38 : decode prog_13_method_63_code 38 = .ok (.ireturn, 1) := by decide +kernel
theorem d_M_mute_39 : decode prog_13_method_63_code 39 = .ok (.aload_n 0, 1) := by decide +kernel
theorem d_M_mute_40 : decode prog_13_method_63_code 40 = .ok (.invokevirtual 143, 3) := by decide +kernel
theorem d_M_mute_43 : decode prog_13_method_63_code 43 = .ok (.ifCond .eq 6, 3) := by decide +kernel
theorem d_M_mute_46 : decode prog_13_method_63_code 46 = .ok (.ldc 215, 2) := by decide +kernel
theorem d_M_mute_48 : decode prog_13_method_63_code 48 = .ok (.ireturn, 1) := by decide +kernel
theorem d_M_mute_49 : decode prog_13_method_63_code 49 = .ok (.aload_n 0, 1) := by decide +kernel
theorem d_M_mute_50 : decode prog_13_method_63_code 50 = .ok (.iconst 0, 1) := by decide +kernel
theorem d_M_mute_51 : decode prog_13_method_63_code 51 = .ok (.putfield 166, 3) := by decide +kernel
theorem d_M_mute_54 : decode prog_13_method_63_code 54 = .ok (.bipush 16, 2) := by decide +kernel
theorem d_M_mute_56 : decode prog_13_method_63_code 56 = .ok (.aload_n 0, 1) := by decide +kernel
theorem d_M_mute_57 : decode prog_13_method_63_code 57 = .ok (.invokevirtual 265, 3) := by decide +kernel
theorem d_M_mute_60 : decode prog_13_method_63_code 60 = .ok (.imul, 1) := by decide +kernel
theorem d_M_mute_61 : decode prog_13_method_63_code 61 = .ok (.iload_n 1, 1) := by decide +kernel
theorem d_M_mute_62 : decode prog_13_method_63_code 62 = .ok (.iadd, 1) := by decide +kernel
theorem d_M_mute_63 : decode prog_13_method_63_code 63 = .ok (.istore 4, 2) := by decide +kernel
theorem d_M_mute_65 : decode prog_13_method_63_code 65 = .ok (.iconst 0, 1) := by decide +kernel
theorem d_M_mute_66 : decode prog_13_method_63_code 66 = .ok (.istore 5, 2) := by decide +kernel
theorem d_M_mute_68 : decode prog_13_method_63_code 68 = .ok (.iload 5, 2) := by decide +kernel
theorem d_M_mute_70 : decode prog_13_method_63_code 70 = .ok (.iload_n 2, 1) := by decide +kernel
theorem d_M_mute_71 : decode prog_13_method_63_code 71 = .ok (.if_icmp .ge 17, 3) := by decide +kernel
theorem d_M_mute_74 : decode prog_13_method_63_code 74 = .ok (.aload_n 0, 1) := by decide +kernel
theorem d_M_mute_75 : decode prog_13_method_63_code 75 = .ok (.iload 4, 2) := by decide +kernel
theorem d_M_mute_77 : decode prog_13_method_63_code 77 = .ok (.invokevirtual 280, 3) := by decide +kernel
theorem d_M_mute_80 : decode prog_13_method_63_code 80 = .ok (.istore 4, 2) := by decide +kernel
theorem d_M_mute_82 : decode prog_13_method_63_code 82 = .ok (.iinc 5 1, 3) := by decide +kernel
theorem d_M_mute_85 : decode prog_13_method_63_code 85 = .ok (.goto (-17), 3) := by decide +kernel
theorem d_M_mute_88 : decode prog_13_method_63_code 88 = .ok (.iload 4, 2) := by decide +kernel
theorem d_M_mute_90 : decode prog_13_method_63_code 90 = .ok (.bipush 16, 2) := by decide +kernel
theorem d_M_mute_92 : decode prog_13_method_63_code 92 = .ok (.idiv, 1) := by decide +kernel
theorem d_M_mute_93 : decode prog_13_method_63_code 93 = .ok (.aload_n 0, 1) := by decide +kernel
theorem d_M_mute_94 : decode prog_13_method_63_code 94 = .ok (.invokevirtual 234, 3) := by decide +kernel
theorem d_M_mute_97 : decode prog_13_method_63_code 97 = .ok (.idiv, 1) := by decide +kernel
theorem d_M_mute_98 : decode prog_13_method_63_code 98 = .ok (.istore 5, 2) := by decide +kernel
theorem d_M_mute_100 : decode prog_13_method_63_code 100 = .ok (.iload_n 3, 1) := by decide +kernel
theorem d_M_mute_101 : decode prog_13_method_63_code 101 = .ok (.ifCond .ne 15, 3) := by decide +kernel
theorem d_M_mute_104 : decode prog_13_method_63_code 104 = .ok (.aload_n 0, 1) := by decide +kernel
theorem d_M_mute_105 : decode prog_13_method_63_code 105 = .ok (.iload 5, 2) := by decide +kernel
theorem d_M_mute_107 : decode prog_13_method_63_code 107 = .ok (.bipush 8, 2) := by decide +kernel
theorem d_M_mute_109 : decode prog_13_method_63_code 109 = .ok (.idiv, 1) := by decide +kernel
theorem d_M_mute_110 : decode prog_13_method_63_code 110 = .ok (.invokevirtual 147, 3) := by decide +kernel
theorem d_M_mute_113 : decode prog_13_method_63_code 113 = .ok (.goto 21, 3) := by decide +kernel
theorem d_M_mute_116 : decode prog_13_method_63_code 116 = .ok (.iload_n 3, 1) := by decide +kernel
theorem d_M_mute_117 : decode prog_13_method_63_code 117 = .ok (.iconst 1, 1) := by decide +kernel
theorem d_M_mute_118 : decode prog_13_method_63_code 118 = .ok (.if_icmp .ne 11, 3) := by decide +kernel
theorem d_M_mute_121 : decode prog_13_method_63_code 121 = .ok (.iload 5, 2) := by decide +kernel
theorem d_M_mute_123 : decode prog_13_method_63_code 123 = .ok (.bipush 8, 2) := by decide +kernel
theorem d_M_mute_125 : decode prog_13_method_63_code 125 = .ok (.irem, 1) := by decide +kernel
theorem d_M_mute_126 : decode prog_13_method_63_code 126 = .ok (.goto 8, 3) := by decide +kernel
theorem d_M_mute_129 : decode prog_13_method_63_code 129 = .ok (.iload 4, 2) := by decide +kernel
theorem d_M_mute_131 : decode prog_13_method_63_code 131 = .ok (.bipush 16, 2) := by decide +kernel
theorem d_M_mute_133 : decode prog_13_method_63_code 133 = .ok (.irem, 1) := by decide +kernel
theorem d_M_mute_134 : decode prog_13_method_63_code 134 = .ok (.ireturn, 1) := by decide +kernel
theorem w_M_mute_L68 {p : Program} {l : Launch} {e : Env} {s : State} {m : MethodId} {args : Array Value} {below : List Frame} {meth : Method} {c : Code} {K : KT} {A : Nat → Prop} {Q : State → Prop} (C0 : Cx p s m args meth c prog_13_method_63_code "CanoeSidesModel" 6 K A) (hr : meth.sig.returnType = (Option.some Jvm.ClassFile.FieldType.int)) {ad : Nat → Nat} (N : Nat) (x2 : Int32) (x3 : Int32) (x4 : Int32) (x5 : Int32) (h : Hp) {x_ : (Int32 × Int32 × Hp) ⊕ (Int32 × Hp)} (hE : K_M_mute_L68 N x2 x3 x4 x5 h = some x_) (hk1 : ∀ z_, x_ = .inl z_ → G p l e rm_M_mute s m args below meth c K A WM 6 0 0 Q 68 [(0, .ref (ad 100)), (2, .int x2), (3, .int x3), (4, .int z_.1), (5, .int z_.2.1)] [] ad z_.2.2) (hk3 : ∀ z_, x_ = .inr z_ → G p l e rm_M_mute s m args below meth c K A WM 6 0 0 Q 88 [(0, .ref (ad 100)), (3, .int x3), (4, .int z_.1)] [] ad z_.2) : G p l e rm_M_mute s m args below meth c K A WM 6 0 0 Q 68 [(0, .ref (ad 100)), (2, .int x2), (3, .int x3), (4, .int x4), (5, .int x5)] [] ad h := by
  unfold K_M_mute_L68 at hE
  refine g_iload C0 4 d_M_mute_68 rfl ?_
  refine g_iload_n C0 1 d_M_mute_70 rfl rfl ?_
  have hB := ite_some hE
  refine g_icmp_ge C0 (tgt := 88) d_M_mute_71 (by decide) (fun c_ => ?_) (fun c_ => ?_)
  · replace hE := hB.1 c_
    refine g_sub [0, 2, 3] (L' := [(0, .ref (ad 100)), (3, .int x3), (4, .int x4)]) rfl ?_
    exact hk3 _ (Option.some.inj hE).symm
  · replace hE := hB.2 c_
    refine g_aload_n C0 0 d_M_mute_74 rfl rfl ?_
    refine g_iload C0 3 d_M_mute_75 rfl ?_
    obtain ⟨v77, h77, z77, hE⟩ := bd2_some hE
    refine g_calli C0 nd_M [100, 101, 102, 103, 104, 105, 106, 107, 108, 109, 110, 111, 112, 113, 114, 115] rfl (sbW_self WM) (runV C0 (m_M_afterMute l K ad h N x4 z77) 1 rfl ⟨t_1437, t_1439, t_74, t_97, t_1440⟩ cd_M_afterMute (by decide) 0 rfl rfl (sbW_self WM) nd_M rfl rfl (Nat.le_of_ble_eq_true rfl) d_M_mute_77) ?_
    refine g_mx [100, 101, 102, 103, 104, 105, 106, 107, 108, 109, 110, 111, 112, 113, 114, 115] rfl ?_
    refine g_istore C0 [(4, .int v77), (0, .ref (ad 100)), (2, .int x2), (3, .int x3), (5, .int x5)] d_M_mute_80 (by decide) rfl ?_
    obtain ⟨v82, e82, hE⟩ := nm_some hE
    refine g_iinc C0 4 [(5, .int v82), (4, .int v77), (0, .ref (ad 100)), (2, .int x2), (3, .int x3)] d_M_mute_82 rfl (by rw [e82]; rfl) (by decide) rfl ?_
    refine g_goto C0 (tgt := 68) d_M_mute_85 (by decide) ?_
    refine g_sub [2, 3, 4, 1, 0] (L' := [(0, .ref (ad 100)), (2, .int x2), (3, .int x3), (4, .int v77), (5, .int v82)]) rfl ?_
    exact hk1 _ (Option.some.inj hE).symm
theorem w_M_mute {p : Program} {l : Launch} {e : Env} {s : State} {m : MethodId} {args : Array Value} {below : List Frame} {meth : Method} {c : Code} {K : KT} {A : Nat → Prop} (C0 : Cx p s m args meth c prog_13_method_63_code "CanoeSidesModel" 6 K A) (hr : meth.sig.returnType = (Option.some Jvm.ClassFile.FieldType.int)) {ad : Nat → Nat} (N : Nat) (a0 : Int32) (b0 : Int32) (c0 : Int32) (h : Hp) {res : Int32 × Hp} (hE : K_M_mute N a0 b0 c0 h = some res) : G p l e rm_M_mute s m args below meth c K A WM 6 0 0 (QI s args below K A WM 0 0 ad res.1 res.2) 0 [(0, .ref (ad 100)), (1, .int a0), (2, .int b0), (3, .int c0)] [] ad h := by
  unfold K_M_mute at hE
  refine g_iload_n C0 1 d_M_mute_0 rfl rfl ?_
  refine g_i2l C0 d_M_mute_1 ?_
  refine g_lconst C0 (v := 0) d_M_mute_2 (by decide) ?_
  refine g_ldc2 C0 (v := 15) t_1423 d_M_mute_3 ?_
  obtain ⟨v6, z6, hE⟩ := bd_some hE
  refine g_calliP C0 nd_M [] rfl (sb_E_M) (runS C0 (m_M_in l K ad h (Int32.toInt64 a0) 0 15 z6) 3 ⟨t_1196, t_1197, t_97, t_1198⟩ cd_M_in (by decide) (sb_E_M) nd_E rfl rfl (Nat.le_of_ble_eq_true rfl) d_M_mute_6) ?_
  have hB := ite_some hE
  refine g_if_eq C0 (tgt := 36) d_M_mute_9 (by decide) (fun c_ => ?_) (fun c_ => ?_)
  · replace hE := hB.1 c_
    refine g_ldc C0 (v := (-1000000002)) t_1199 d_M_mute_36 ?_
    obtain rfl := Option.some.inj hE
    exact g_iret C0 hr d_M_mute_38
  · replace hE := hB.2 c_
    refine g_iload_n C0 2 d_M_mute_12 rfl rfl ?_
    refine g_i2l C0 d_M_mute_13 ?_
    refine g_lconst C0 (v := 0) d_M_mute_14 (by decide) ?_
    refine g_ldc2 C0 (v := 99) t_1360 d_M_mute_15 ?_
    obtain ⟨v18, z18, hE⟩ := bd_some hE
    refine g_calliP C0 nd_M [] rfl (sb_E_M) (runS C0 (m_M_in l K ad h (Int32.toInt64 b0) 0 99 z18) 3 ⟨t_1196, t_1197, t_97, t_1198⟩ cd_M_in (by decide) (sb_E_M) nd_E rfl rfl (Nat.le_of_ble_eq_true rfl) d_M_mute_18) ?_
    have hB := ite_some hE
    refine g_if_eq C0 (tgt := 36) d_M_mute_21 (by decide) (fun c_ => ?_) (fun c_ => ?_)
    · replace hE := hB.1 c_
      refine g_ldc C0 (v := (-1000000002)) t_1199 d_M_mute_36 ?_
      obtain rfl := Option.some.inj hE
      exact g_iret C0 hr d_M_mute_38
    · replace hE := hB.2 c_
      refine g_iload_n C0 3 d_M_mute_24 rfl rfl ?_
      refine g_i2l C0 d_M_mute_25 ?_
      refine g_lconst C0 (v := 0) d_M_mute_26 (by decide) ?_
      refine g_ldc2 C0 (v := 2) t_1436 d_M_mute_27 ?_
      obtain ⟨v30, z30, hE⟩ := bd_some hE
      refine g_calliP C0 nd_M [] rfl (sb_E_M) (runS C0 (m_M_in l K ad h (Int32.toInt64 c0) 0 2 z30) 3 ⟨t_1196, t_1197, t_97, t_1198⟩ cd_M_in (by decide) (sb_E_M) nd_E rfl rfl (Nat.le_of_ble_eq_true rfl) d_M_mute_30) ?_
      have hB := ite_some hE
      refine g_if_ne C0 (tgt := 39) d_M_mute_33 (by decide) (fun c_ => ?_) (fun c_ => ?_)
      · replace hE := hB.2 c_
        refine g_aload_n C0 0 d_M_mute_39 rfl rfl ?_
        obtain ⟨v40, z40, hE⟩ := bd_some hE
        refine g_calliP C0 nd_M [100, 101, 102, 103, 104, 105, 106, 107, 108, 109, 110, 111, 112, 113, 114, 115] rfl (sbW_self WM) (runV C0 (m_M_isNone l K ad h z40) 0 rfl ⟨t_1264, t_1266, t_51, t_97, t_1267⟩ cd_M_isNone (by decide) 0 rfl rfl (sbW_self WM) nd_M rfl rfl (Nat.le_of_ble_eq_true rfl) d_M_mute_40) ?_
        have hB := ite_some hE
        refine g_if_eq C0 (tgt := 49) d_M_mute_43 (by decide) (fun c_ => ?_) (fun c_ => ?_)
        · replace hE := hB.1 c_
          refine g_aload_n C0 0 d_M_mute_49 rfl rfl ?_
          refine g_iconst C0 (v := 0) d_M_mute_50 (by decide) ?_
          obtain ⟨h51, e51, hE⟩ := nm_some hE
          refine g_puti C0 CK_11 CT_11 12 (by decide) t_1102 rfl (by decide +kernel) nd_M 0 rfl rfl d_M_mute_51 ?_
          refine g_heap e51 ?_
          refine g_bipush C0 (v := 16) d_M_mute_54 (by decide) ?_
          refine g_aload_n C0 0 d_M_mute_56 rfl rfl ?_
          obtain ⟨v57, z57, hE⟩ := bd_some hE
          refine g_calliP C0 nd_M [100, 101, 102, 103, 104, 105, 106, 107, 108, 109, 110, 111, 112, 113, 114, 115] rfl (sbW_self WM) (runV C0 (m_M_stateNow l K ad h51 z57) 0 rfl ⟨t_1406, t_1408, t_71, t_97, t_1409⟩ cd_M_stateNow (by decide) 0 rfl rfl (sbW_self WM) nd_M rfl rfl (Nat.le_of_ble_eq_true rfl) d_M_mute_57) ?_
          refine g_imul C0 d_M_mute_60 ?_
          refine g_iload_n C0 1 d_M_mute_61 rfl rfl ?_
          refine g_iadd C0 d_M_mute_62 ?_
          obtain ⟨v63, e63, hE⟩ := nm_some hE
          refine g_top e63 ?_
          refine g_istore C0 [(4, .int v63), (0, .ref (ad 100)), (1, .int a0), (2, .int b0), (3, .int c0)] d_M_mute_63 (by decide) rfl ?_
          refine g_iconst C0 (v := 0) d_M_mute_65 (by decide) ?_
          refine g_istore C0 [(5, .int 0), (4, .int v63), (0, .ref (ad 100)), (1, .int a0), (2, .int b0), (3, .int c0)] d_M_mute_66 (by decide) rfl ?_
          refine g_sub [2, 4, 5, 1, 0] (L' := [(0, .ref (ad 100)), (2, .int b0), (3, .int c0), (4, .int v63), (5, .int 0)]) rfl ?_
          obtain ⟨t68, z68, hE⟩ := bd_some hE
          refine loopG (fun z_ : Int32 × Int32 × Hp => K_M_mute_L68 N b0 c0 z_.1 z_.2.1 z_.2.2) (fun z_ : Int32 × Int32 × Hp => G p l e rm_M_mute s m args below meth c K A WM 6 0 0 _ 68 [(0, .ref (ad 100)), (2, .int b0), (3, .int c0), (4, .int z_.1), (5, .int z_.2.1)] [] ad z_.2.2) (fun z_ : Int32 × Hp => G p l e rm_M_mute s m args below meth c K A WM 6 0 0 _ 88 [(0, .ref (ad 100)), (3, .int c0), (4, .int z_.1)] [] ad z_.2) (fun z_ x_ hz k1 k2 => w_M_mute_L68 C0 hr N b0 c0 z_.1 z_.2.1 z_.2.2 hz k1 k2) _ _ _ z68 ?_
          try dsimp only
          refine g_iload C0 2 d_M_mute_88 rfl ?_
          refine g_bipush C0 (v := 16) d_M_mute_90 (by decide) ?_
          refine g_idiv C0 d_M_mute_92 (by decide) ?_
          refine g_aload_n C0 0 d_M_mute_93 rfl rfl ?_
          obtain ⟨v94, z94, hE⟩ := bd_some hE
          refine g_calliP C0 nd_M [100, 101, 102, 103, 104, 105, 106, 107, 108, 109, 110, 111, 112, 113, 114, 115] rfl (sbW_self WM) (runV C0 (m_M_times l K ad t68.2 z94) 0 rfl ⟨t_1385, t_1387, t_66, t_97, t_1388⟩ cd_M_times (by decide) 0 rfl rfl (sbW_self WM) nd_M rfl rfl (Nat.le_of_ble_eq_true rfl) d_M_mute_94) ?_
          obtain ⟨q97, hE⟩ := dz_some hE
          refine g_idiv C0 d_M_mute_97 q97 ?_
          obtain ⟨v98, e98, hE⟩ := nm_some hE
          refine g_top e98 ?_
          refine g_istore C0 [(5, .int v98), (0, .ref (ad 100)), (3, .int c0), (4, .int t68.1)] d_M_mute_98 (by decide) rfl ?_
          refine g_iload_n C0 2 d_M_mute_100 rfl rfl ?_
          have hB := ite_some hE
          refine g_if_ne C0 (tgt := 116) d_M_mute_101 (by decide) (fun c_ => ?_) (fun c_ => ?_)
          · replace hE := hB.2 c_
            refine g_iload_n C0 2 d_M_mute_116 rfl rfl ?_
            refine g_iconst C0 (v := 1) d_M_mute_117 (by decide) ?_
            have hB := ite_some hE
            refine g_icmp_ne C0 (tgt := 129) d_M_mute_118 (by decide) (fun c_ => ?_) (fun c_ => ?_)
            · replace hE := hB.2 c_
              refine g_iload C0 3 d_M_mute_129 rfl ?_
              refine g_bipush C0 (v := 16) d_M_mute_131 (by decide) ?_
              refine g_irem C0 d_M_mute_133 (by decide) ?_
              obtain rfl := Option.some.inj hE
              exact g_iret C0 hr d_M_mute_134
            · replace hE := hB.1 c_
              refine g_iload C0 0 d_M_mute_121 rfl ?_
              refine g_bipush C0 (v := 8) d_M_mute_123 (by decide) ?_
              refine g_irem C0 d_M_mute_125 (by decide) ?_
              refine g_goto C0 (tgt := 134) d_M_mute_126 (by decide) ?_
              obtain rfl := Option.some.inj hE
              exact g_iret C0 hr d_M_mute_134
          · replace hE := hB.1 c_
            refine g_aload_n C0 1 d_M_mute_104 rfl rfl ?_
            refine g_iload C0 0 d_M_mute_105 rfl ?_
            refine g_bipush C0 (v := 8) d_M_mute_107 (by decide) ?_
            refine g_idiv C0 d_M_mute_109 (by decide) ?_
            obtain ⟨v110, z110, hE⟩ := bd_some hE
            refine g_calliP C0 nd_M [100, 101, 102, 103, 104, 105, 106, 107, 108, 109, 110, 111, 112, 113, 114, 115] rfl (sbW_self WM) (runV C0 (m_M_pair l K ad t68.2 (v98 / 8) z110) 1 rfl ⟨t_1260, t_1262, t_50, t_97, t_1263⟩ cd_M_pair (by decide) 0 rfl rfl (sbW_self WM) nd_M rfl rfl (Nat.le_of_ble_eq_true rfl) d_M_mute_110) ?_
            refine g_goto C0 (tgt := 134) d_M_mute_113 (by decide) ?_
            obtain rfl := Option.some.inj hE
            exact g_iret C0 hr d_M_mute_134
        · replace hE := hB.2 c_
          refine g_ldc C0 (v := (-1000000003)) t_1296 d_M_mute_46 ?_
          obtain rfl := Option.some.inj hE
          exact g_iret C0 hr d_M_mute_48
      · replace hE := hB.1 c_
        refine g_ldc C0 (v := (-1000000002)) t_1199 d_M_mute_36 ?_
        obtain rfl := Option.some.inj hE
        exact g_iret C0 hr d_M_mute_38
theorem m_M_mute (l : Launch) (K : KT) (ad : Nat → Nat) (h : Hp) (N : Nat) (a0 : Int32) (b0 : Int32) (c0 : Int32) {res : Int32 × Hp} (hE : K_M_mute N a0 b0 c0 h = some res) : ConI l y_M_mute prog_13_method_63_code 6 (Option.some Jvm.ClassFile.FieldType.int) rm_M_mute K WM ad h [.ref (ad 100), .int a0, .int b0, .int c0] res.1 res.2 := fun sz =>
  con_start [(0, .ref (ad 100)), (1, .int a0), (2, .int b0), (3, .int c0)] (by decide +kernel) rfl (Nat.le_of_ble_eq_true rfl) (fun p e s m args below meth c C0 hr hnm hsz => w_M_mute C0 hr N a0 b0 c0 h hE)
abbrev y_M_round : MethodName := ⟨"CanoeSidesModel", "round", "(II)I"⟩
abbrev rm_M_round : Room := { frames := 7, cells := 0, slots := 0, locals := 170 }
theorem cd_M_round : cwd y_M_round 2 := by decide +kernel
theorem d_M_round_0 : decode prog_13_method_64_code 0 = .ok (.iload_n 1, 1) := by decide +kernel
theorem d_M_round_1 : decode prog_13_method_64_code 1 = .ok (.i2l, 1) := by decide +kernel
theorem d_M_round_2 : decode prog_13_method_64_code 2 = .ok (.lconst 0, 1) := by decide +kernel
theorem d_M_round_3 : decode prog_13_method_64_code 3 = .ok (.ldc2_w 270, 3) := by decide +kernel
theorem d_M_round_6 : decode prog_13_method_64_code 6 = .ok (.invokestatic 67, 3) := by decide +kernel
theorem d_M_round_9 : decode prog_13_method_64_code 9 = .ok (.ifCond .eq 13, 3) := by decide +kernel
theorem d_M_round_12 : decode prog_13_method_64_code 12 = .ok (.iload_n 2, 1) := by decide +kernel
theorem d_M_round_13 : decode prog_13_method_64_code 13 = .ok (.i2l, 1) := by decide +kernel
theorem d_M_round_14 : decode prog_13_method_64_code 14 = .ok (.lconst 0, 1) := by decide +kernel
theorem d_M_round_15 : decode prog_13_method_64_code 15 = .ok (.lconst 1, 1) := by decide +kernel
theorem d_M_round_16 : decode prog_13_method_64_code 16 = .ok (.invokestatic 67, 3) := by decide +kernel
theorem d_M_round_19 : decode prog_13_method_64_code 19 = .ok (.ifCond .ne 6, 3) := by decide +kernel
theorem d_M_round_22 : decode prog_13_method_64_code 22 = .ok (.ldc 71, 2) := by decide +kernel
theorem d_M_round_24 : decode prog_13_method_64_code 24 = .ok (.ireturn, 1) := by decide +kernel
theorem d_M_round_25 : decode prog_13_method_64_code 25 = .ok (.aload_n 0, 1) := by decide +kernel
theorem d_M_round_26 : decode prog_13_method_64_code 26 = .ok (.invokevirtual 143, 3) := by decide +kernel
theorem d_M_round_29 : decode prog_13_method_64_code 29 = .ok (.ifCond .eq 6, 3) := by decide +kernel
theorem d_M_round_32 : decode prog_13_method_64_code 32 = .ok (.ldc 215, 2) := by decide +kernel
theorem d_M_round_34 : decode prog_13_method_64_code 34 = .ok (.ireturn, 1) := by decide +kernel
theorem d_M_round_35 : decode prog_13_method_64_code 35 = .ok (.aload_n 0, 1) := by decide +kernel
theorem d_M_round_36 : decode prog_13_method_64_code 36 = .ok (.iconst 0, 1) := by decide +kernel
theorem d_M_round_37 : decode prog_13_method_64_code 37 = .ok (.putfield 166, 3) := by decide +kernel
theorem d_M_round_40 : decode prog_13_method_64_code 40 = .ok (.iconst 0, 1) := by decide +kernel
theorem d_M_round_41 : decode prog_13_method_64_code 41 = .ok (.istore_n 3, 1) := by decide +kernel
theorem d_M_round_42 : decode prog_13_method_64_code 42 = .ok (.iload_n 3, 1) := by decide +kernel
theorem d_M_round_43 : decode prog_13_method_64_code 43 = .ok (.bipush 16, 2) := by decide +kernel
theorem d_M_round_45 : decode prog_13_method_64_code 45 = .ok (.aload_n 0, 1) := by decide +kernel
theorem d_M_round_46 : decode prog_13_method_64_code 46 = .ok (.invokevirtual 250, 3) := by decide +kernel
theorem d_M_round_49 : decode prog_13_method_64_code 49 = .ok (.imul, 1) := by decide +kernel
theorem d_M_round_50 : decode prog_13_method_64_code 50 = .ok (.if_icmp .ge 16, 3) := by decide +kernel
theorem d_M_round_53 : decode prog_13_method_64_code 53 = .ok (.aload_n 0, 1) := by decide +kernel
theorem d_M_round_54 : decode prog_13_method_64_code 54 = .ok (.getfield 40, 3) := by decide +kernel
theorem d_M_round_57 : decode prog_13_method_64_code 57 = .ok (.iload_n 3, 1) := by decide +kernel
theorem d_M_round_58 : decode prog_13_method_64_code 58 = .ok (.iconst (-1), 1) := by decide +kernel
theorem d_M_round_59 : decode prog_13_method_64_code 59 = .ok (.iastore, 1) := by decide +kernel
theorem d_M_round_60 : decode prog_13_method_64_code 60 = .ok (.iinc 3 1, 3) := by decide +kernel
theorem d_M_round_63 : decode prog_13_method_64_code 63 = .ok (.goto (-21), 3) := by decide +kernel
theorem d_M_round_66 : decode prog_13_method_64_code 66 = .ok (.bipush 16, 2) := by decide +kernel
theorem d_M_round_68 : decode prog_13_method_64_code 68 = .ok (.aload_n 0, 1) := by decide +kernel
theorem d_M_round_69 : decode prog_13_method_64_code 69 = .ok (.invokevirtual 265, 3) := by decide +kernel
theorem d_M_round_72 : decode prog_13_method_64_code 72 = .ok (.imul, 1) := by decide +kernel
theorem d_M_round_73 : decode prog_13_method_64_code 73 = .ok (.iload_n 1, 1) := by decide +kernel
theorem d_M_round_74 : decode prog_13_method_64_code 74 = .ok (.iadd, 1) := by decide +kernel
theorem d_M_round_75 : decode prog_13_method_64_code 75 = .ok (.istore_n 3, 1) := by decide +kernel
theorem d_M_round_76 : decode prog_13_method_64_code 76 = .ok (.iconst 0, 1) := by decide +kernel
theorem d_M_round_77 : decode prog_13_method_64_code 77 = .ok (.istore 4, 2) := by decide +kernel
theorem d_M_round_79 : decode prog_13_method_64_code 79 = .ok (.aload_n 0, 1) := by decide +kernel
theorem d_M_round_80 : decode prog_13_method_64_code 80 = .ok (.getfield 40, 3) := by decide +kernel
theorem d_M_round_83 : decode prog_13_method_64_code 83 = .ok (.iload_n 3, 1) := by decide +kernel
theorem d_M_round_84 : decode prog_13_method_64_code 84 = .ok (.iaload, 1) := by decide +kernel
theorem d_M_round_85 : decode prog_13_method_64_code 85 = .ok (.ifCond .ge 23, 3) := by decide +kernel
theorem d_M_round_88 : decode prog_13_method_64_code 88 = .ok (.aload_n 0, 1) := by decide +kernel
theorem d_M_round_89 : decode prog_13_method_64_code 89 = .ok (.getfield 40, 3) := by decide +kernel
theorem d_M_round_92 : decode prog_13_method_64_code 92 = .ok (.iload_n 3, 1) := by decide +kernel
theorem d_M_round_93 : decode prog_13_method_64_code 93 = .ok (.iload 4, 2) := by decide +kernel
theorem d_M_round_95 : decode prog_13_method_64_code 95 = .ok (.iastore, 1) := by decide +kernel
theorem d_M_round_96 : decode prog_13_method_64_code 96 = .ok (.aload_n 0, 1) := by decide +kernel
theorem d_M_round_97 : decode prog_13_method_64_code 97 = .ok (.iload_n 3, 1) := by decide +kernel
theorem d_M_round_98 : decode prog_13_method_64_code 98 = .ok (.invokevirtual 280, 3) := by decide +kernel
theorem d_M_round_101 : decode prog_13_method_64_code 101 = .ok (.istore_n 3, 1) := by decide +kernel
theorem d_M_round_102 : decode prog_13_method_64_code 102 = .ok (.iinc 4 1, 3) := by decide +kernel
theorem d_M_round_105 : decode prog_13_method_64_code 105 = .ok (.goto (-26), 3) := by decide +kernel
theorem d_M_round_108 : decode prog_13_method_64_code 108 = .ok (.iload_n 2, 1) := by decide +kernel
theorem d_M_round_109 : decode prog_13_method_64_code 109 = .ok (.ifCond .ne 12, 3) := by decide +kernel
theorem d_M_round_112 : decode prog_13_method_64_code 112 = .ok (.aload_n 0, 1) := by decide +kernel
theorem d_M_round_113 : decode prog_13_method_64_code 113 = .ok (.getfield 40, 3) := by decide +kernel
theorem d_M_round_116 : decode prog_13_method_64_code 116 = .ok (.iload_n 3, 1) := by decide +kernel
theorem d_M_round_117 : decode prog_13_method_64_code 117 = .ok (.iaload, 1) := by decide +kernel
theorem d_M_round_118 : decode prog_13_method_64_code 118 = .ok (.goto 12, 3) := by decide +kernel
theorem d_M_round_121 : decode prog_13_method_64_code 121 = .ok (.iload 4, 2) := by decide +kernel
theorem d_M_round_123 : decode prog_13_method_64_code 123 = .ok (.aload_n 0, 1) := by decide +kernel
theorem d_M_round_124 : decode prog_13_method_64_code 124 = .ok (.getfield 40, 3) := by decide +kernel
theorem d_M_round_127 : decode prog_13_method_64_code 127 = .ok (.iload_n 3, 1) := by decide +kernel
theorem d_M_round_128 : decode prog_13_method_64_code 128 = .ok (.iaload, 1) := by decide +kernel
theorem d_M_round_129 : decode prog_13_method_64_code 129 = .ok (.isub, 1) := by decide +kernel
theorem d_M_round_130 : decode prog_13_method_64_code 130 = .ok (.ireturn, 1) := by decide +kernel
theorem w_M_round_L42 {p : Program} {l : Launch} {e : Env} {s : State} {m : MethodId} {args : Array Value} {below : List Frame} {meth : Method} {c : Code} {K : KT} {A : Nat → Prop} {Q : State → Prop} (C0 : Cx p s m args meth c prog_13_method_64_code "CanoeSidesModel" 5 K A) (hr : meth.sig.returnType = (Option.some Jvm.ClassFile.FieldType.int)) {ad : Nat → Nat} (N : Nat) (x1 : Int32) (x2 : Int32) (x3 : Int32) (h : Hp) {x_ : (Int32 × Hp) ⊕ (Hp)} (hE : K_M_round_L42 N x1 x2 x3 h = some x_) (hk1 : ∀ z_, x_ = .inl z_ → G p l e rm_M_round s m args below meth c K A WM 5 0 0 Q 42 [(0, .ref (ad 100)), (1, .int x1), (2, .int x2), (3, .int z_.1)] [] ad z_.2) (hk3 : ∀ z_, x_ = .inr z_ → G p l e rm_M_round s m args below meth c K A WM 5 0 0 Q 66 [(0, .ref (ad 100)), (1, .int x1), (2, .int x2)] [] ad z_) : G p l e rm_M_round s m args below meth c K A WM 5 0 0 Q 42 [(0, .ref (ad 100)), (1, .int x1), (2, .int x2), (3, .int x3)] [] ad h := by
  unfold K_M_round_L42 at hE
  refine g_iload_n C0 3 d_M_round_42 rfl rfl ?_
  refine g_bipush C0 (v := 16) d_M_round_43 (by decide) ?_
  refine g_aload_n C0 0 d_M_round_45 rfl rfl ?_
  obtain ⟨v46, z46, hE⟩ := bd_some hE
  refine g_calliP C0 nd_M [100, 101, 102, 103, 104, 105, 106, 107, 108, 109, 110, 111, 112, 113, 114, 115] rfl (sbW_self WM) (runV C0 (m_M_states l K ad h z46) 0 rfl ⟨t_1381, t_1383, t_65, t_97, t_1384⟩ cd_M_states (by decide) 0 rfl rfl (sbW_self WM) nd_M rfl rfl (Nat.le_of_ble_eq_true rfl) d_M_round_46) ?_
  refine g_imul C0 d_M_round_49 ?_
  have hB := ite_some hE
  refine g_icmp_ge C0 (tgt := 66) d_M_round_50 (by decide) (fun c_ => ?_) (fun c_ => ?_)
  · replace hE := hB.1 c_
    refine g_sub [0, 1, 2] (L' := [(0, .ref (ad 100)), (1, .int x1), (2, .int x2)]) rfl ?_
    exact hk3 _ (Option.some.inj hE).symm
  · replace hE := hB.2 c_
    refine g_aload_n C0 0 d_M_round_53 rfl rfl ?_
    refine g_getr C0 CK_11 20 (by decide) t_1110 0 rfl rfl d_M_round_54 ?_
    refine g_iload_n C0 3 d_M_round_57 rfl rfl ?_
    refine g_iconst C0 (v := (-1)) d_M_round_58 (by decide) ?_
    obtain ⟨q59, hE⟩ := sA_some hE
    obtain ⟨h59, e59, hE⟩ := nm_some hE
    refine g_iast C0 9 rfl nd_M q59 d_M_round_59 ?_
    refine g_heap e59 ?_
    obtain ⟨v60, e60, hE⟩ := nm_some hE
    refine g_iinc C0 3 [(3, .int v60), (0, .ref (ad 100)), (1, .int x1), (2, .int x2)] d_M_round_60 rfl (by rw [e60]; rfl) (by decide) rfl ?_
    refine g_goto C0 (tgt := 42) d_M_round_63 (by decide) ?_
    refine g_sub [1, 2, 3, 0] (L' := [(0, .ref (ad 100)), (1, .int x1), (2, .int x2), (3, .int v60)]) rfl ?_
    exact hk1 _ (Option.some.inj hE).symm
theorem w_M_round_L79 {p : Program} {l : Launch} {e : Env} {s : State} {m : MethodId} {args : Array Value} {below : List Frame} {meth : Method} {c : Code} {K : KT} {A : Nat → Prop} {Q : State → Prop} (C0 : Cx p s m args meth c prog_13_method_64_code "CanoeSidesModel" 5 K A) (hr : meth.sig.returnType = (Option.some Jvm.ClassFile.FieldType.int)) {ad : Nat → Nat} (N : Nat) (x2 : Int32) (x3 : Int32) (x4 : Int32) (h : Hp) {x_ : (Int32 × Int32 × Hp) ⊕ (Int32 × Int32 × Hp)} (hE : K_M_round_L79 N x2 x3 x4 h = some x_) (hk1 : ∀ z_, x_ = .inl z_ → G p l e rm_M_round s m args below meth c K A WM 5 0 0 Q 79 [(0, .ref (ad 100)), (2, .int x2), (3, .int z_.1), (4, .int z_.2.1)] [] ad z_.2.2) (hk3 : ∀ z_, x_ = .inr z_ → G p l e rm_M_round s m args below meth c K A WM 5 0 0 Q 108 [(0, .ref (ad 100)), (2, .int x2), (3, .int z_.1), (4, .int z_.2.1)] [] ad z_.2.2) : G p l e rm_M_round s m args below meth c K A WM 5 0 0 Q 79 [(0, .ref (ad 100)), (2, .int x2), (3, .int x3), (4, .int x4)] [] ad h := by
  unfold K_M_round_L79 at hE
  refine g_aload_n C0 0 d_M_round_79 rfl rfl ?_
  refine g_getr C0 CK_11 20 (by decide) t_1110 0 rfl rfl d_M_round_80 ?_
  refine g_iload_n C0 2 d_M_round_83 rfl rfl ?_
  obtain ⟨q84, v84, e84, hE⟩ := gA_some hE
  refine g_iald C0 9 rfl q84 d_M_round_84 ?_
  refine g_top e84 ?_
  have hB := ite_some hE
  refine g_if_ge C0 (tgt := 108) d_M_round_85 (by decide) (fun c_ => ?_) (fun c_ => ?_)
  · replace hE := hB.1 c_
    exact hk3 _ (Option.some.inj hE).symm
  · replace hE := hB.2 c_
    refine g_aload_n C0 0 d_M_round_88 rfl rfl ?_
    refine g_getr C0 CK_11 20 (by decide) t_1110 0 rfl rfl d_M_round_89 ?_
    refine g_iload_n C0 2 d_M_round_92 rfl rfl ?_
    refine g_iload C0 3 d_M_round_93 rfl ?_
    obtain ⟨q95, hE⟩ := sA_some hE
    obtain ⟨h95, e95, hE⟩ := nm_some hE
    refine g_iast C0 9 rfl nd_M q95 d_M_round_95 ?_
    refine g_heap e95 ?_
    refine g_aload_n C0 0 d_M_round_96 rfl rfl ?_
    refine g_iload_n C0 2 d_M_round_97 rfl rfl ?_
    obtain ⟨v98, h98, z98, hE⟩ := bd2_some hE
    refine g_calli C0 nd_M [100, 101, 102, 103, 104, 105, 106, 107, 108, 109, 110, 111, 112, 113, 114, 115] rfl (sbW_self WM) (runV C0 (m_M_afterMute l K ad h95 N x3 z98) 1 rfl ⟨t_1437, t_1439, t_74, t_97, t_1440⟩ cd_M_afterMute (by decide) 0 rfl rfl (sbW_self WM) nd_M rfl rfl (Nat.le_of_ble_eq_true rfl) d_M_round_98) ?_
    refine g_mx [100, 101, 102, 103, 104, 105, 106, 107, 108, 109, 110, 111, 112, 113, 114, 115] rfl ?_
    refine g_istore_n C0 [(3, .int v98), (0, .ref (ad 100)), (2, .int x2), (4, .int x4)] d_M_round_101 rfl (by decide) rfl ?_
    obtain ⟨v102, e102, hE⟩ := nm_some hE
    refine g_iinc C0 3 [(4, .int v102), (3, .int v98), (0, .ref (ad 100)), (2, .int x2)] d_M_round_102 rfl (by rw [e102]; rfl) (by decide) rfl ?_
    refine g_goto C0 (tgt := 79) d_M_round_105 (by decide) ?_
    refine g_sub [2, 3, 1, 0] (L' := [(0, .ref (ad 100)), (2, .int x2), (3, .int v98), (4, .int v102)]) rfl ?_
    exact hk1 _ (Option.some.inj hE).symm
theorem w_M_round {p : Program} {l : Launch} {e : Env} {s : State} {m : MethodId} {args : Array Value} {below : List Frame} {meth : Method} {c : Code} {K : KT} {A : Nat → Prop} (C0 : Cx p s m args meth c prog_13_method_64_code "CanoeSidesModel" 5 K A) (hr : meth.sig.returnType = (Option.some Jvm.ClassFile.FieldType.int)) {ad : Nat → Nat} (N : Nat) (a0 : Int32) (b0 : Int32) (h : Hp) {res : Int32 × Hp} (hE : K_M_round N a0 b0 h = some res) : G p l e rm_M_round s m args below meth c K A WM 5 0 0 (QI s args below K A WM 0 0 ad res.1 res.2) 0 [(0, .ref (ad 100)), (1, .int a0), (2, .int b0)] [] ad h := by
  unfold K_M_round at hE
  refine g_iload_n C0 1 d_M_round_0 rfl rfl ?_
  refine g_i2l C0 d_M_round_1 ?_
  refine g_lconst C0 (v := 0) d_M_round_2 (by decide) ?_
  refine g_ldc2 C0 (v := 15) t_1423 d_M_round_3 ?_
  obtain ⟨v6, z6, hE⟩ := bd_some hE
  refine g_calliP C0 nd_M [] rfl (sb_E_M) (runS C0 (m_M_in l K ad h (Int32.toInt64 a0) 0 15 z6) 3 ⟨t_1196, t_1197, t_97, t_1198⟩ cd_M_in (by decide) (sb_E_M) nd_E rfl rfl (Nat.le_of_ble_eq_true rfl) d_M_round_6) ?_
  have hB := ite_some hE
  refine g_if_eq C0 (tgt := 22) d_M_round_9 (by decide) (fun c_ => ?_) (fun c_ => ?_)
  · replace hE := hB.1 c_
    refine g_ldc C0 (v := (-1000000002)) t_1199 d_M_round_22 ?_
    obtain rfl := Option.some.inj hE
    exact g_iret C0 hr d_M_round_24
  · replace hE := hB.2 c_
    refine g_iload_n C0 2 d_M_round_12 rfl rfl ?_
    refine g_i2l C0 d_M_round_13 ?_
    refine g_lconst C0 (v := 0) d_M_round_14 (by decide) ?_
    refine g_lconst C0 (v := 1) d_M_round_15 (by decide) ?_
    obtain ⟨v16, z16, hE⟩ := bd_some hE
    refine g_calliP C0 nd_M [] rfl (sb_E_M) (runS C0 (m_M_in l K ad h (Int32.toInt64 b0) 0 1 z16) 3 ⟨t_1196, t_1197, t_97, t_1198⟩ cd_M_in (by decide) (sb_E_M) nd_E rfl rfl (Nat.le_of_ble_eq_true rfl) d_M_round_16) ?_
    have hB := ite_some hE
    refine g_if_ne C0 (tgt := 25) d_M_round_19 (by decide) (fun c_ => ?_) (fun c_ => ?_)
    · replace hE := hB.2 c_
      refine g_aload_n C0 0 d_M_round_25 rfl rfl ?_
      obtain ⟨v26, z26, hE⟩ := bd_some hE
      refine g_calliP C0 nd_M [100, 101, 102, 103, 104, 105, 106, 107, 108, 109, 110, 111, 112, 113, 114, 115] rfl (sbW_self WM) (runV C0 (m_M_isNone l K ad h z26) 0 rfl ⟨t_1264, t_1266, t_51, t_97, t_1267⟩ cd_M_isNone (by decide) 0 rfl rfl (sbW_self WM) nd_M rfl rfl (Nat.le_of_ble_eq_true rfl) d_M_round_26) ?_
      have hB := ite_some hE
      refine g_if_eq C0 (tgt := 35) d_M_round_29 (by decide) (fun c_ => ?_) (fun c_ => ?_)
      · replace hE := hB.1 c_
        refine g_aload_n C0 0 d_M_round_35 rfl rfl ?_
        refine g_iconst C0 (v := 0) d_M_round_36 (by decide) ?_
        obtain ⟨h37, e37, hE⟩ := nm_some hE
        refine g_puti C0 CK_11 CT_11 12 (by decide) t_1102 rfl (by decide +kernel) nd_M 0 rfl rfl d_M_round_37 ?_
        refine g_heap e37 ?_
        refine g_iconst C0 (v := 0) d_M_round_40 (by decide) ?_
        refine g_istore_n C0 [(3, .int 0), (0, .ref (ad 100)), (1, .int a0), (2, .int b0)] d_M_round_41 rfl (by decide) rfl ?_
        refine g_sub [1, 2, 3, 0] (L' := [(0, .ref (ad 100)), (1, .int a0), (2, .int b0), (3, .int 0)]) rfl ?_
        obtain ⟨t42, z42, hE⟩ := bd_some hE
        refine loopG (fun z_ : Int32 × Hp => K_M_round_L42 N a0 b0 z_.1 z_.2) (fun z_ : Int32 × Hp => G p l e rm_M_round s m args below meth c K A WM 5 0 0 _ 42 [(0, .ref (ad 100)), (1, .int a0), (2, .int b0), (3, .int z_.1)] [] ad z_.2) (fun z_ : Hp => G p l e rm_M_round s m args below meth c K A WM 5 0 0 _ 66 [(0, .ref (ad 100)), (1, .int a0), (2, .int b0)] [] ad z_) (fun z_ x_ hz k1 k2 => w_M_round_L42 C0 hr N a0 b0 z_.1 z_.2 hz k1 k2) _ _ _ z42 ?_
        try dsimp only
        refine g_bipush C0 (v := 16) d_M_round_66 (by decide) ?_
        refine g_aload_n C0 0 d_M_round_68 rfl rfl ?_
        obtain ⟨v69, z69, hE⟩ := bd_some hE
        refine g_calliP C0 nd_M [100, 101, 102, 103, 104, 105, 106, 107, 108, 109, 110, 111, 112, 113, 114, 115] rfl (sbW_self WM) (runV C0 (m_M_stateNow l K ad t42 z69) 0 rfl ⟨t_1406, t_1408, t_71, t_97, t_1409⟩ cd_M_stateNow (by decide) 0 rfl rfl (sbW_self WM) nd_M rfl rfl (Nat.le_of_ble_eq_true rfl) d_M_round_69) ?_
        refine g_imul C0 d_M_round_72 ?_
        refine g_iload_n C0 1 d_M_round_73 rfl rfl ?_
        refine g_iadd C0 d_M_round_74 ?_
        obtain ⟨v75, e75, hE⟩ := nm_some hE
        refine g_top e75 ?_
        refine g_istore_n C0 [(3, .int v75), (0, .ref (ad 100)), (1, .int a0), (2, .int b0)] d_M_round_75 rfl (by decide) rfl ?_
        refine g_iconst C0 (v := 0) d_M_round_76 (by decide) ?_
        refine g_istore C0 [(4, .int 0), (3, .int v75), (0, .ref (ad 100)), (1, .int a0), (2, .int b0)] d_M_round_77 (by decide) rfl ?_
        refine g_sub [2, 4, 1, 0] (L' := [(0, .ref (ad 100)), (2, .int b0), (3, .int v75), (4, .int 0)]) rfl ?_
        obtain ⟨t79, z79, hE⟩ := bd_some hE
        refine loopG (fun z_ : Int32 × Int32 × Hp => K_M_round_L79 N b0 z_.1 z_.2.1 z_.2.2) (fun z_ : Int32 × Int32 × Hp => G p l e rm_M_round s m args below meth c K A WM 5 0 0 _ 79 [(0, .ref (ad 100)), (2, .int b0), (3, .int z_.1), (4, .int z_.2.1)] [] ad z_.2.2) (fun z_ : Int32 × Int32 × Hp => G p l e rm_M_round s m args below meth c K A WM 5 0 0 _ 108 [(0, .ref (ad 100)), (2, .int b0), (3, .int z_.1), (4, .int z_.2.1)] [] ad z_.2.2) (fun z_ x_ hz k1 k2 => w_M_round_L79 C0 hr N b0 z_.1 z_.2.1 z_.2.2 hz k1 k2) _ _ _ z79 ?_
        try dsimp only
        refine g_iload_n C0 1 d_M_round_108 rfl rfl ?_
        have hB := ite_some hE
        refine g_if_ne C0 (tgt := 121) d_M_round_109 (by decide) (fun c_ => ?_) (fun c_ => ?_)
        · replace hE := hB.2 c_
          refine g_iload C0 3 d_M_round_121 rfl ?_
          refine g_aload_n C0 0 d_M_round_123 rfl rfl ?_
          refine g_getr C0 CK_11 20 (by decide) t_1110 0 rfl rfl d_M_round_124 ?_
          refine g_iload_n C0 2 d_M_round_127 rfl rfl ?_
          obtain ⟨q128, v128, e128, hE⟩ := gA_some hE
          refine g_iald C0 9 rfl q128 d_M_round_128 ?_
          refine g_top e128 ?_
          refine g_isub C0 d_M_round_129 ?_
          obtain rfl := Option.some.inj hE
          exact g_iret C0 hr d_M_round_130
        · replace hE := hB.1 c_
          refine g_aload_n C0 0 d_M_round_112 rfl rfl ?_
          refine g_getr C0 CK_11 20 (by decide) t_1110 0 rfl rfl d_M_round_113 ?_
          refine g_iload_n C0 2 d_M_round_116 rfl rfl ?_
          obtain ⟨q117, v117, e117, hE⟩ := gA_some hE
          refine g_iald C0 9 rfl q117 d_M_round_117 ?_
          refine g_top e117 ?_
          refine g_goto C0 (tgt := 130) d_M_round_118 (by decide) ?_
          obtain rfl := Option.some.inj hE
          exact g_iret C0 hr d_M_round_130
      · replace hE := hB.2 c_
        refine g_ldc C0 (v := (-1000000003)) t_1296 d_M_round_32 ?_
        obtain rfl := Option.some.inj hE
        exact g_iret C0 hr d_M_round_34
    · replace hE := hB.1 c_
      refine g_ldc C0 (v := (-1000000002)) t_1199 d_M_round_22 ?_
      obtain rfl := Option.some.inj hE
      exact g_iret C0 hr d_M_round_24
theorem m_M_round (l : Launch) (K : KT) (ad : Nat → Nat) (h : Hp) (N : Nat) (a0 : Int32) (b0 : Int32) {res : Int32 × Hp} (hE : K_M_round N a0 b0 h = some res) : ConI l y_M_round prog_13_method_64_code 5 (Option.some Jvm.ClassFile.FieldType.int) rm_M_round K WM ad h [.ref (ad 100), .int a0, .int b0] res.1 res.2 := fun sz =>
  con_start [(0, .ref (ad 100)), (1, .int a0), (2, .int b0)] (by decide +kernel) rfl (Nat.le_of_ble_eq_true rfl) (fun p e s m args below meth c C0 hr hnm hsz => w_M_round C0 hr N a0 b0 h hE)
abbrev y_M_openWater : MethodName := ⟨"CanoeSidesModel", "openWater", "(II)V"⟩
abbrev rm_M_openWater : Room := { frames := 2, cells := 0, slots := 0, locals := 45 }
theorem cd_M_openWater : cwd y_M_openWater 2 := by decide +kernel
theorem d_M_openWater_0 : decode prog_13_method_65_code 0 = .ok (.aload_n 0, 1) := by decide +kernel
theorem d_M_openWater_1 : decode prog_13_method_65_code 1 = .ok (.iconst 0, 1) := by decide +kernel
theorem d_M_openWater_2 : decode prog_13_method_65_code 2 = .ok (.putfield 166, 3) := by decide +kernel
theorem d_M_openWater_5 : decode prog_13_method_65_code 5 = .ok (.aload_n 0, 1) := by decide +kernel
theorem d_M_openWater_6 : decode prog_13_method_65_code 6 = .ok (.iconst 0, 1) := by decide +kernel
theorem d_M_openWater_7 : decode prog_13_method_65_code 7 = .ok (.putfield 283, 3) := by decide +kernel
theorem d_M_openWater_10 : decode prog_13_method_65_code 10 = .ok (.aload_n 0, 1) := by decide +kernel
theorem d_M_openWater_11 : decode prog_13_method_65_code 11 = .ok (.iconst 0, 1) := by decide +kernel
theorem d_M_openWater_12 : decode prog_13_method_65_code 12 = .ok (.putfield 286, 3) := by decide +kernel
theorem d_M_openWater_15 : decode prog_13_method_65_code 15 = .ok (.iconst 0, 1) := by decide +kernel
theorem d_M_openWater_16 : decode prog_13_method_65_code 16 = .ok (.istore_n 3, 1) := by decide +kernel
theorem d_M_openWater_17 : decode prog_13_method_65_code 17 = .ok (.iconst 0, 1) := by decide +kernel
theorem d_M_openWater_18 : decode prog_13_method_65_code 18 = .ok (.istore 4, 2) := by decide +kernel
theorem d_M_openWater_20 : decode prog_13_method_65_code 20 = .ok (.iload 4, 2) := by decide +kernel
theorem d_M_openWater_22 : decode prog_13_method_65_code 22 = .ok (.iload_n 2, 1) := by decide +kernel
theorem d_M_openWater_23 : decode prog_13_method_65_code 23 = .ok (.if_icmp .ge 79, 3) := by decide +kernel
theorem d_M_openWater_26 : decode prog_13_method_65_code 26 = .ok (.iload 4, 2) := by decide +kernel
theorem d_M_openWater_28 : decode prog_13_method_65_code 28 = .ok (.iload_n 1, 1) := by decide +kernel
theorem d_M_openWater_29 : decode prog_13_method_65_code 29 = .ok (.idiv, 1) := by decide +kernel
theorem d_M_openWater_30 : decode prog_13_method_65_code 30 = .ok (.iconst 2, 1) := by decide +kernel
theorem d_M_openWater_31 : decode prog_13_method_65_code 31 = .ok (.irem, 1) := by decide +kernel
theorem d_M_openWater_32 : decode prog_13_method_65_code 32 = .ok (.istore 5, 2) := by decide +kernel
theorem d_M_openWater_34 : decode prog_13_method_65_code 34 = .ok (.iload_n 3, 1) := by decide +kernel
theorem d_M_openWater_35 : decode prog_13_method_65_code 35 = .ok (.aload_n 0, 1) := by decide +kernel
theorem d_M_openWater_36 : decode prog_13_method_65_code 36 = .ok (.iload 5, 2) := by decide +kernel
theorem d_M_openWater_38 : decode prog_13_method_65_code 38 = .ok (.iload 5, 2) := by decide +kernel
theorem d_M_openWater_40 : decode prog_13_method_65_code 40 = .ok (.invokevirtual 186, 3) := by decide +kernel
theorem d_M_openWater_43 : decode prog_13_method_65_code 43 = .ok (.bipush 8, 2) := by decide +kernel
theorem d_M_openWater_45 : decode prog_13_method_65_code 45 = .ok (.irem, 1) := by decide +kernel
theorem d_M_openWater_46 : decode prog_13_method_65_code 46 = .ok (.iadd, 1) := by decide +kernel
theorem d_M_openWater_47 : decode prog_13_method_65_code 47 = .ok (.bipush 8, 2) := by decide +kernel
theorem d_M_openWater_49 : decode prog_13_method_65_code 49 = .ok (.iadd, 1) := by decide +kernel
theorem d_M_openWater_50 : decode prog_13_method_65_code 50 = .ok (.bipush 8, 2) := by decide +kernel
theorem d_M_openWater_52 : decode prog_13_method_65_code 52 = .ok (.irem, 1) := by decide +kernel
theorem d_M_openWater_53 : decode prog_13_method_65_code 53 = .ok (.istore_n 3, 1) := by decide +kernel
theorem d_M_openWater_54 : decode prog_13_method_65_code 54 = .ok (.aload_n 0, 1) := by decide +kernel
theorem d_M_openWater_55 : decode prog_13_method_65_code 55 = .ok (.iload 5, 2) := by decide +kernel
theorem d_M_openWater_57 : decode prog_13_method_65_code 57 = .ok (.iload 5, 2) := by decide +kernel
theorem d_M_openWater_59 : decode prog_13_method_65_code 59 = .ok (.invokevirtual 192, 3) := by decide +kernel
theorem d_M_openWater_62 : decode prog_13_method_65_code 62 = .ok (.istore 6, 2) := by decide +kernel
theorem d_M_openWater_64 : decode prog_13_method_65_code 64 = .ok (.aload_n 0, 1) := by decide +kernel
theorem d_M_openWater_65 : decode prog_13_method_65_code 65 = .ok (.dup, 1) := by decide +kernel
theorem d_M_openWater_66 : decode prog_13_method_65_code 66 = .ok (.getfield 283, 3) := by decide +kernel
theorem d_M_openWater_69 : decode prog_13_method_65_code 69 = .ok (.iload 6, 2) := by decide +kernel
theorem d_M_openWater_71 : decode prog_13_method_65_code 71 = .ok (.iload_n 3, 1) := by decide +kernel
theorem d_M_openWater_72 : decode prog_13_method_65_code 72 = .ok (.invokestatic 176, 3) := by decide +kernel
theorem d_M_openWater_75 : decode prog_13_method_65_code 75 = .ok (.imul, 1) := by decide +kernel
theorem d_M_openWater_76 : decode prog_13_method_65_code 76 = .ok (.iadd, 1) := by decide +kernel
theorem d_M_openWater_77 : decode prog_13_method_65_code 77 = .ok (.putfield 283, 3) := by decide +kernel
theorem d_M_openWater_80 : decode prog_13_method_65_code 80 = .ok (.aload_n 0, 1) := by decide +kernel
theorem d_M_openWater_81 : decode prog_13_method_65_code 81 = .ok (.dup, 1) := by decide +kernel
theorem d_M_openWater_82 : decode prog_13_method_65_code 82 = .ok (.getfield 286, 3) := by decide +kernel
theorem d_M_openWater_85 : decode prog_13_method_65_code 85 = .ok (.iload 6, 2) := by decide +kernel
theorem d_M_openWater_87 : decode prog_13_method_65_code 87 = .ok (.iload_n 3, 1) := by decide +kernel
theorem d_M_openWater_88 : decode prog_13_method_65_code 88 = .ok (.invokestatic 179, 3) := by decide +kernel
theorem d_M_openWater_91 : decode prog_13_method_65_code 91 = .ok (.imul, 1) := by decide +kernel
theorem d_M_openWater_92 : decode prog_13_method_65_code 92 = .ok (.iadd, 1) := by decide +kernel
theorem d_M_openWater_93 : decode prog_13_method_65_code 93 = .ok (.putfield 286, 3) := by decide +kernel
theorem d_M_openWater_96 : decode prog_13_method_65_code 96 = .ok (.iinc 4 1, 3) := by decide +kernel
theorem d_M_openWater_99 : decode prog_13_method_65_code 99 = .ok (.goto (-79), 3) := by decide +kernel
theorem d_M_openWater_102 : decode prog_13_method_65_code 102 = .ok (.return_, 1) := by decide +kernel
theorem w_M_openWater_L20 {p : Program} {l : Launch} {e : Env} {s : State} {m : MethodId} {args : Array Value} {below : List Frame} {meth : Method} {c : Code} {K : KT} {A : Nat → Prop} {Q : State → Prop} (C0 : Cx p s m args meth c prog_13_method_65_code "CanoeSidesModel" 7 K A) (hr : meth.sig.returnType = (Option.none : Option Jvm.ClassFile.FieldType)) {ad : Nat → Nat} (N : Nat) (x1 : Int32) (x2 : Int32) (x3 : Int32) (x4 : Int32) (h : Hp) {x_ : (Int32 × Int32 × Hp) ⊕ (Hp)} (hE : K_M_openWater_L20 N x1 x2 x3 x4 h = some x_) (hk1 : ∀ z_, x_ = .inl z_ → G p l e rm_M_openWater s m args below meth c K A WM 7 0 0 Q 20 [(0, .ref (ad 100)), (1, .int x1), (2, .int x2), (3, .int z_.1), (4, .int z_.2.1)] [] ad z_.2.2) (hk3 : ∀ z_, x_ = .inr z_ → G p l e rm_M_openWater s m args below meth c K A WM 7 0 0 Q 102 [] [] ad z_) : G p l e rm_M_openWater s m args below meth c K A WM 7 0 0 Q 20 [(0, .ref (ad 100)), (1, .int x1), (2, .int x2), (3, .int x3), (4, .int x4)] [] ad h := by
  unfold K_M_openWater_L20 at hE
  refine g_iload C0 4 d_M_openWater_20 rfl ?_
  refine g_iload_n C0 2 d_M_openWater_22 rfl rfl ?_
  have hB := ite_some hE
  refine g_icmp_ge C0 (tgt := 102) d_M_openWater_23 (by decide) (fun c_ => ?_) (fun c_ => ?_)
  · replace hE := hB.1 c_
    refine g_sub [] (L' := []) rfl ?_
    exact hk3 _ (Option.some.inj hE).symm
  · replace hE := hB.2 c_
    refine g_iload C0 4 d_M_openWater_26 rfl ?_
    refine g_iload_n C0 1 d_M_openWater_28 rfl rfl ?_
    obtain ⟨q29, hE⟩ := dz_some hE
    refine g_idiv C0 d_M_openWater_29 q29 ?_
    refine g_iconst C0 (v := 2) d_M_openWater_30 (by decide) ?_
    refine g_irem C0 d_M_openWater_31 (by decide) ?_
    obtain ⟨v32, e32, hE⟩ := nm_some hE
    refine g_top e32 ?_
    refine g_istore C0 [(5, .int v32), (0, .ref (ad 100)), (1, .int x1), (2, .int x2), (3, .int x3), (4, .int x4)] d_M_openWater_32 (by decide) rfl ?_
    refine g_iload_n C0 4 d_M_openWater_34 rfl rfl ?_
    refine g_aload_n C0 1 d_M_openWater_35 rfl rfl ?_
    refine g_iload C0 0 d_M_openWater_36 rfl ?_
    refine g_iload C0 0 d_M_openWater_38 rfl ?_
    obtain ⟨v40, z40, hE⟩ := bd_some hE
    refine g_calliP C0 nd_M [100, 101, 102, 103, 104, 105, 106, 107, 108, 109, 110, 111, 112, 113, 114, 115] rfl (sbW_self WM) (runV C0 (m_M_turnBy l K ad h v32 v32 z40) 2 rfl ⟨t_1309, t_1311, t_57, t_97, t_1312⟩ cd_M_turnBy (by decide) 0 rfl rfl (sbW_self WM) nd_M rfl rfl (Nat.le_of_ble_eq_true rfl) d_M_openWater_40) ?_
    refine g_bipush C0 (v := 8) d_M_openWater_43 (by decide) ?_
    refine g_irem C0 d_M_openWater_45 (by decide) ?_
    refine g_iadd C0 d_M_openWater_46 ?_
    refine g_bipush C0 (v := 8) d_M_openWater_47 (by decide) ?_
    refine g_iadd C0 d_M_openWater_49 ?_
    refine g_bipush C0 (v := 8) d_M_openWater_50 (by decide) ?_
    refine g_irem C0 d_M_openWater_52 (by decide) ?_
    obtain ⟨v53, e53, hE⟩ := nm_some hE
    refine g_top e53 ?_
    refine g_istore_n C0 [(3, .int v53), (5, .int v32), (0, .ref (ad 100)), (1, .int x1), (2, .int x2), (4, .int x4)] d_M_openWater_53 rfl (by decide) rfl ?_
    refine g_aload_n C0 2 d_M_openWater_54 rfl rfl ?_
    refine g_iload C0 1 d_M_openWater_55 rfl ?_
    refine g_iload C0 1 d_M_openWater_57 rfl ?_
    obtain ⟨v59, z59, hE⟩ := bd_some hE
    refine g_calliP C0 nd_M [100, 101, 102, 103, 104, 105, 106, 107, 108, 109, 110, 111, 112, 113, 114, 115] rfl (sbW_self WM) (runV C0 (m_M_pushBy l K ad h v32 v32 z59) 2 rfl ⟨t_1316, t_1318, t_58, t_97, t_1319⟩ cd_M_pushBy (by decide) 0 rfl rfl (sbW_self WM) nd_M rfl rfl (Nat.le_of_ble_eq_true rfl) d_M_openWater_59) ?_
    refine g_istore C0 [(6, .int v59), (3, .int v53), (5, .int v32), (0, .ref (ad 100)), (1, .int x1), (2, .int x2), (4, .int x4)] d_M_openWater_62 (by decide) rfl ?_
    refine g_aload_n C0 3 d_M_openWater_64 rfl rfl ?_
    refine g_dup C0 d_M_openWater_65 rfl ?_
    refine g_geti C0 CK_11 22 (by decide) t_1112 0 rfl rfl d_M_openWater_66 ?_
    refine g_iload C0 0 d_M_openWater_69 rfl ?_
    refine g_iload_n C0 1 d_M_openWater_71 rfl rfl ?_
    obtain ⟨v72, z72, hE⟩ := bd_some hE
    refine g_calliP C0 nd_M [] rfl (sb_E_M) (runS C0 (m_M_east l K ad h v53 z72) 1 ⟨t_1323, t_1324, t_97, t_1325⟩ cd_M_east (by decide) (sb_E_M) nd_E rfl rfl (Nat.le_of_ble_eq_true rfl) d_M_openWater_72) ?_
    refine g_imul C0 d_M_openWater_75 ?_
    refine g_iadd C0 d_M_openWater_76 ?_
    obtain ⟨h77, e77, hE⟩ := nm_some hE
    refine g_puti C0 CK_11 CT_11 22 (by decide) t_1112 rfl (by decide +kernel) nd_M 0 rfl rfl d_M_openWater_77 ?_
    refine g_heap e77 ?_
    refine g_aload_n C0 3 d_M_openWater_80 rfl rfl ?_
    refine g_dup C0 d_M_openWater_81 rfl ?_
    refine g_geti C0 CK_11 23 (by decide) t_1113 0 rfl rfl d_M_openWater_82 ?_
    refine g_iload C0 0 d_M_openWater_85 rfl ?_
    refine g_iload_n C0 1 d_M_openWater_87 rfl rfl ?_
    obtain ⟨v88, z88, hE⟩ := bd_some hE
    refine g_calliP C0 nd_M [] rfl (sb_E_M) (runS C0 (m_M_north l K ad h77 v53 z88) 1 ⟨t_1328, t_1329, t_97, t_1330⟩ cd_M_north (by decide) (sb_E_M) nd_E rfl rfl (Nat.le_of_ble_eq_true rfl) d_M_openWater_88) ?_
    refine g_imul C0 d_M_openWater_91 ?_
    refine g_iadd C0 d_M_openWater_92 ?_
    obtain ⟨h93, e93, hE⟩ := nm_some hE
    refine g_puti C0 CK_11 CT_11 23 (by decide) t_1113 rfl (by decide +kernel) nd_M 0 rfl rfl d_M_openWater_93 ?_
    refine g_heap e93 ?_
    obtain ⟨v96, e96, hE⟩ := nm_some hE
    refine g_iinc C0 6 [(4, .int v96), (6, .int v59), (3, .int v53), (5, .int v32), (0, .ref (ad 100)), (1, .int x1), (2, .int x2)] d_M_openWater_96 rfl (by rw [e96]; rfl) (by decide) rfl ?_
    refine g_goto C0 (tgt := 20) d_M_openWater_99 (by decide) ?_
    refine g_sub [4, 5, 6, 2, 0] (L' := [(0, .ref (ad 100)), (1, .int x1), (2, .int x2), (3, .int v53), (4, .int v96)]) rfl ?_
    exact hk1 _ (Option.some.inj hE).symm
theorem w_M_openWater {p : Program} {l : Launch} {e : Env} {s : State} {m : MethodId} {args : Array Value} {below : List Frame} {meth : Method} {c : Code} {K : KT} {A : Nat → Prop} (C0 : Cx p s m args meth c prog_13_method_65_code "CanoeSidesModel" 7 K A) (hr : meth.sig.returnType = (Option.none : Option Jvm.ClassFile.FieldType)) {ad : Nat → Nat} (N : Nat) (a0 : Int32) (b0 : Int32) (h : Hp) {res : Hp} (hE : K_M_openWater N a0 b0 h = some res) : G p l e rm_M_openWater s m args below meth c K A WM 7 0 0 (QV s args below K A WM 0 0 ad res) 0 [(0, .ref (ad 100)), (1, .int a0), (2, .int b0)] [] ad h := by
  unfold K_M_openWater at hE
  refine g_aload_n C0 0 d_M_openWater_0 rfl rfl ?_
  refine g_iconst C0 (v := 0) d_M_openWater_1 (by decide) ?_
  obtain ⟨h2, e2, hE⟩ := nm_some hE
  refine g_puti C0 CK_11 CT_11 12 (by decide) t_1102 rfl (by decide +kernel) nd_M 0 rfl rfl d_M_openWater_2 ?_
  refine g_heap e2 ?_
  refine g_aload_n C0 0 d_M_openWater_5 rfl rfl ?_
  refine g_iconst C0 (v := 0) d_M_openWater_6 (by decide) ?_
  obtain ⟨h7, e7, hE⟩ := nm_some hE
  refine g_puti C0 CK_11 CT_11 22 (by decide) t_1112 rfl (by decide +kernel) nd_M 0 rfl rfl d_M_openWater_7 ?_
  refine g_heap e7 ?_
  refine g_aload_n C0 0 d_M_openWater_10 rfl rfl ?_
  refine g_iconst C0 (v := 0) d_M_openWater_11 (by decide) ?_
  obtain ⟨h12, e12, hE⟩ := nm_some hE
  refine g_puti C0 CK_11 CT_11 23 (by decide) t_1113 rfl (by decide +kernel) nd_M 0 rfl rfl d_M_openWater_12 ?_
  refine g_heap e12 ?_
  refine g_iconst C0 (v := 0) d_M_openWater_15 (by decide) ?_
  refine g_istore_n C0 [(3, .int 0), (0, .ref (ad 100)), (1, .int a0), (2, .int b0)] d_M_openWater_16 rfl (by decide) rfl ?_
  refine g_iconst C0 (v := 0) d_M_openWater_17 (by decide) ?_
  refine g_istore C0 [(4, .int 0), (3, .int 0), (0, .ref (ad 100)), (1, .int a0), (2, .int b0)] d_M_openWater_18 (by decide) rfl ?_
  refine g_sub [2, 3, 4, 1, 0] (L' := [(0, .ref (ad 100)), (1, .int a0), (2, .int b0), (3, .int 0), (4, .int 0)]) rfl ?_
  obtain ⟨t20, z20, hE⟩ := bd_some hE
  refine loopG (fun z_ : Int32 × Int32 × Hp => K_M_openWater_L20 N a0 b0 z_.1 z_.2.1 z_.2.2) (fun z_ : Int32 × Int32 × Hp => G p l e rm_M_openWater s m args below meth c K A WM 7 0 0 _ 20 [(0, .ref (ad 100)), (1, .int a0), (2, .int b0), (3, .int z_.1), (4, .int z_.2.1)] [] ad z_.2.2) (fun z_ : Hp => G p l e rm_M_openWater s m args below meth c K A WM 7 0 0 _ 102 [] [] ad z_) (fun z_ x_ hz k1 k2 => w_M_openWater_L20 C0 hr N a0 b0 z_.1 z_.2.1 z_.2.2 hz k1 k2) _ _ _ z20 ?_
  try dsimp only
  obtain rfl := Option.some.inj hE
  exact g_vret C0 hr d_M_openWater_102
theorem m_M_openWater (l : Launch) (K : KT) (ad : Nat → Nat) (h : Hp) (N : Nat) (a0 : Int32) (b0 : Int32) {res : Hp} (hE : K_M_openWater N a0 b0 h = some res) : ConV l y_M_openWater prog_13_method_65_code 7 (Option.none : Option Jvm.ClassFile.FieldType) rm_M_openWater K WM ad h [.ref (ad 100), .int a0, .int b0] res := fun sz =>
  con_start [(0, .ref (ad 100)), (1, .int a0), (2, .int b0)] (by decide +kernel) rfl (Nat.le_of_ble_eq_true rfl) (fun p e s m args below meth c C0 hr hnm hsz => w_M_openWater C0 hr N a0 b0 h hE)
