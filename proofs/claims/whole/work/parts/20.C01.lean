/-! walks, by program -/
abbrev y_Waters_timeBehind : MethodName := ⟨"CanoeSides$Waters", "timeBehind", "(I)I"⟩
abbrev rm_Waters_timeBehind : Room := { frames := 1, cells := 0, slots := 0, locals := 21 }
theorem cd_Waters_timeBehind : cwd y_Waters_timeBehind 1 := by decide +kernel
theorem d_Waters_timeBehind_0 : decode prog_11_method_3_code 0 = .ok (.iload_n 1, 1) := by decide +kernel
theorem d_Waters_timeBehind_1 : decode prog_11_method_3_code 1 = .ok (.iconst 1, 1) := by decide +kernel
theorem d_Waters_timeBehind_2 : decode prog_11_method_3_code 2 = .ok (.aload_n 0, 1) := by decide +kernel
theorem d_Waters_timeBehind_3 : decode prog_11_method_3_code 3 = .ok (.getfield 18, 3) := by decide +kernel
theorem d_Waters_timeBehind_6 : decode prog_11_method_3_code 6 = .ok (.invokestatic 27, 3) := by decide +kernel
theorem d_Waters_timeBehind_9 : decode prog_11_method_3_code 9 = .ok (.irem, 1) := by decide +kernel
theorem d_Waters_timeBehind_10 : decode prog_11_method_3_code 10 = .ok (.ireturn, 1) := by decide +kernel
theorem w_Waters_timeBehind {p : Program} {l : Launch} {e : Env} {s : State} {m : MethodId} {args : Array Value} {below : List Frame} {meth : Method} {c : Code} {K : KT} {A : Nat → Prop} (C0 : Cx p s m args meth c prog_11_method_3_code "CanoeSides$Waters" 2 K A) (hr : meth.sig.returnType = (Option.some Jvm.ClassFile.FieldType.int)) {ad : Nat → Nat} (a0 : Int32) (h : Hp) {res : Int32} (hE : K_Waters_timeBehind a0 h = some res) : G p l e rm_Waters_timeBehind s m args below meth c K A WWaters 2 0 0 (QI s args below K A WWaters 0 0 ad res h) 0 [(0, .ref (ad 15)), (1, .int a0)] [] ad h := by
  unfold K_Waters_timeBehind at hE
  refine g_iload_n C0 1 d_Waters_timeBehind_0 rfl rfl ?_
  refine g_iconst C0 (v := 1) d_Waters_timeBehind_1 (by decide) ?_
  refine g_aload_n C0 0 d_Waters_timeBehind_2 rfl rfl ?_
  refine g_geti C0 CK_9 2 (by decide) t_202 0 rfl rfl d_Waters_timeBehind_3 ?_
  refine g_max C0 t_386 ⟨Nat.le_of_ble_eq_true rfl, Nat.le_of_ble_eq_true rfl, Nat.zero_le _, Nat.zero_le _⟩ d_Waters_timeBehind_6 ?_
  obtain ⟨q9, hE⟩ := dz_some hE
  refine g_irem C0 d_Waters_timeBehind_9 q9 ?_
  obtain rfl := Option.some.inj hE
  exact g_iret C0 hr d_Waters_timeBehind_10
theorem m_Waters_timeBehind (l : Launch) (K : KT) (ad : Nat → Nat) (h : Hp) (a0 : Int32) {res : Int32} (hE : K_Waters_timeBehind a0 h = some res) : ConI l y_Waters_timeBehind prog_11_method_3_code 2 (Option.some Jvm.ClassFile.FieldType.int) rm_Waters_timeBehind K WWaters ad h [.ref (ad 15), .int a0] res h := fun sz =>
  con_start [(0, .ref (ad 15)), (1, .int a0)] (by decide +kernel) rfl (Nat.le_of_ble_eq_true rfl) (fun p e s m args below meth c C0 hr hnm hsz => w_Waters_timeBehind C0 hr a0 h hE)
abbrev y_Lines_momentBehind : MethodName := ⟨"CanoeSides$Lines", "momentBehind", "(IILCanoeSides$Crew;I)I"⟩
abbrev rm_Lines_momentBehind : Room := { frames := 2, cells := 0, slots := 0, locals := 42 }
theorem cd_Lines_momentBehind : cwd y_Lines_momentBehind 4 := by decide +kernel
theorem d_Lines_momentBehind_0 : decode prog_6_method_7_code 0 = .ok (.iload_n 1, 1) := by decide +kernel
theorem d_Lines_momentBehind_1 : decode prog_6_method_7_code 1 = .ok (.ifCond .le 23, 3) := by decide +kernel
theorem d_Lines_momentBehind_4 : decode prog_6_method_7_code 4 = .ok (.iload_n 1, 1) := by decide +kernel
theorem d_Lines_momentBehind_5 : decode prog_6_method_7_code 5 = .ok (.aload_n 0, 1) := by decide +kernel
theorem d_Lines_momentBehind_6 : decode prog_6_method_7_code 6 = .ok (.getfield 9, 3) := by decide +kernel
theorem d_Lines_momentBehind_9 : decode prog_6_method_7_code 9 = .ok (.arraylength, 1) := by decide +kernel
theorem d_Lines_momentBehind_10 : decode prog_6_method_7_code 10 = .ok (.if_icmp .gt 14, 3) := by decide +kernel
theorem d_Lines_momentBehind_13 : decode prog_6_method_7_code 13 = .ok (.aload_n 0, 1) := by decide +kernel
theorem d_Lines_momentBehind_14 : decode prog_6_method_7_code 14 = .ok (.getfield 9, 3) := by decide +kernel
theorem d_Lines_momentBehind_17 : decode prog_6_method_7_code 17 = .ok (.iload_n 1, 1) := by decide +kernel
theorem d_Lines_momentBehind_18 : decode prog_6_method_7_code 18 = .ok (.iconst 1, 1) := by decide +kernel
theorem d_Lines_momentBehind_19 : decode prog_6_method_7_code 19 = .ok (.isub, 1) := by decide +kernel
theorem d_Lines_momentBehind_20 : decode prog_6_method_7_code 20 = .ok (.iaload, 1) := by decide +kernel
theorem d_Lines_momentBehind_21 : decode prog_6_method_7_code 21 = .ok (.goto 8, 3) := by decide +kernel
theorem d_Lines_momentBehind_24 : decode prog_6_method_7_code 24 = .ok (.iload 4, 2) := by decide +kernel
theorem d_Lines_momentBehind_26 : decode prog_6_method_7_code 26 = .ok (.invokestatic 37, 3) := by decide +kernel
theorem d_Lines_momentBehind_29 : decode prog_6_method_7_code 29 = .ok (.istore 5, 2) := by decide +kernel
theorem d_Lines_momentBehind_31 : decode prog_6_method_7_code 31 = .ok (.aload_n 3, 1) := by decide +kernel
theorem d_Lines_momentBehind_32 : decode prog_6_method_7_code 32 = .ok (.getfield 56, 3) := by decide +kernel
theorem d_Lines_momentBehind_35 : decode prog_6_method_7_code 35 = .ok (.iload 4, 2) := by decide +kernel
theorem d_Lines_momentBehind_37 : decode prog_6_method_7_code 37 = .ok (.sipush 384, 3) := by decide +kernel
theorem d_Lines_momentBehind_40 : decode prog_6_method_7_code 40 = .ok (.idiv, 1) := by decide +kernel
theorem d_Lines_momentBehind_41 : decode prog_6_method_7_code 41 = .ok (.iload_n 1, 1) := by decide +kernel
theorem d_Lines_momentBehind_42 : decode prog_6_method_7_code 42 = .ok (.iadd, 1) := by decide +kernel
theorem d_Lines_momentBehind_43 : decode prog_6_method_7_code 43 = .ok (.invokevirtual 60, 3) := by decide +kernel
theorem d_Lines_momentBehind_46 : decode prog_6_method_7_code 46 = .ok (.istore 6, 2) := by decide +kernel
theorem d_Lines_momentBehind_48 : decode prog_6_method_7_code 48 = .ok (.iload 6, 2) := by decide +kernel
theorem d_Lines_momentBehind_50 : decode prog_6_method_7_code 50 = .ok (.sipush 384, 3) := by decide +kernel
theorem d_Lines_momentBehind_53 : decode prog_6_method_7_code 53 = .ok (.imul, 1) := by decide +kernel
theorem d_Lines_momentBehind_54 : decode prog_6_method_7_code 54 = .ok (.iload 5, 2) := by decide +kernel
theorem d_Lines_momentBehind_56 : decode prog_6_method_7_code 56 = .ok (.bipush 8, 2) := by decide +kernel
theorem d_Lines_momentBehind_58 : decode prog_6_method_7_code 58 = .ok (.imul, 1) := by decide +kernel
theorem d_Lines_momentBehind_59 : decode prog_6_method_7_code 59 = .ok (.iadd, 1) := by decide +kernel
theorem d_Lines_momentBehind_60 : decode prog_6_method_7_code 60 = .ok (.iload_n 2, 1) := by decide +kernel
theorem d_Lines_momentBehind_61 : decode prog_6_method_7_code 61 = .ok (.iadd, 1) := by decide +kernel
theorem d_Lines_momentBehind_62 : decode prog_6_method_7_code 62 = .ok (.ireturn, 1) := by decide +kernel
theorem w_Lines_momentBehind_J29 {p : Program} {l : Launch} {e : Env} {s : State} {m : MethodId} {args : Array Value} {below : List Frame} {meth : Method} {c : Code} {K : KT} {A : Nat → Prop} (C0 : Cx p s m args meth c prog_6_method_7_code "CanoeSides$Lines" 7 K A) (hr : meth.sig.returnType = (Option.some Jvm.ClassFile.FieldType.int)) {ad : Nat → Nat} (x1 : Int32) (x2 : Int32) (x4 : Int32) (y0 : Int32) (h : Hp) {res : Int32} (hE : K_Lines_momentBehind_J29 x1 x2 x4 y0 h = some res) : G p l e rm_Lines_momentBehind s m args below meth c K A WLines 7 0 0 (QI s args below K A WLines 0 0 ad res h) 29 [(1, .int x1), (2, .int x2), (3, .ref (ad 20)), (4, .int x4)] [.int y0] ad h := by
  unfold K_Lines_momentBehind_J29 at hE
  refine g_istore C0 [(5, .int y0), (1, .int x1), (2, .int x2), (3, .ref (ad 20)), (4, .int x4)] d_Lines_momentBehind_29 (by decide) rfl ?_
  refine g_aload_n C0 3 d_Lines_momentBehind_31 rfl rfl ?_
  refine g_getrN C0 CK_2 0 (by decide) t_218 5 rfl rfl d_Lines_momentBehind_32 ?_
  refine g_iload C0 4 d_Lines_momentBehind_35 rfl ?_
  refine g_sipush C0 (v := 384) d_Lines_momentBehind_37 (by decide) ?_
  refine g_idiv C0 d_Lines_momentBehind_40 (by decide) ?_
  refine g_iload_n C0 1 d_Lines_momentBehind_41 rfl rfl ?_
  refine g_iadd C0 d_Lines_momentBehind_42 ?_
  obtain ⟨v43, z43, hE⟩ := bd_some hE
  refine g_calliP C0 nd_Lines [15, 16, 17] rfl (sb_Waters_Lines) (runV C0 (m_Waters_timeBehind l K ad h ((x4 / 384) + x1) z43) 1 rfl ⟨t_1014, t_769, t_770, t_88, t_771⟩ cd_Waters_timeBehind (by decide) 8 rfl rfl (sb_Waters_Lines) nd_Waters rfl rfl (Nat.le_of_ble_eq_true rfl) d_Lines_momentBehind_43) ?_
  refine g_istore C0 [(6, .int v43), (5, .int y0), (1, .int x1), (2, .int x2), (3, .ref (ad 20)), (4, .int x4)] d_Lines_momentBehind_46 (by decide) rfl ?_
  refine g_iload C0 0 d_Lines_momentBehind_48 rfl ?_
  refine g_sipush C0 (v := 384) d_Lines_momentBehind_50 (by decide) ?_
  refine g_imul C0 d_Lines_momentBehind_53 ?_
  refine g_iload C0 1 d_Lines_momentBehind_54 rfl ?_
  refine g_bipush C0 (v := 8) d_Lines_momentBehind_56 (by decide) ?_
  refine g_imul C0 d_Lines_momentBehind_58 ?_
  refine g_iadd C0 d_Lines_momentBehind_59 ?_
  refine g_iload_n C0 3 d_Lines_momentBehind_60 rfl rfl ?_
  refine g_iadd C0 d_Lines_momentBehind_61 ?_
  obtain rfl := Option.some.inj hE
  exact g_iret C0 hr d_Lines_momentBehind_62
theorem w_Lines_momentBehind_J24 {p : Program} {l : Launch} {e : Env} {s : State} {m : MethodId} {args : Array Value} {below : List Frame} {meth : Method} {c : Code} {K : KT} {A : Nat → Prop} (C0 : Cx p s m args meth c prog_6_method_7_code "CanoeSides$Lines" 7 K A) (hr : meth.sig.returnType = (Option.some Jvm.ClassFile.FieldType.int)) {ad : Nat → Nat} (x1 : Int32) (x2 : Int32) (x4 : Int32) (h : Hp) {res : Int32} (hE : K_Lines_momentBehind_J24 x1 x2 x4 h = some res) : G p l e rm_Lines_momentBehind s m args below meth c K A WLines 7 0 0 (QI s args below K A WLines 0 0 ad res h) 24 [(1, .int x1), (2, .int x2), (3, .ref (ad 20)), (4, .int x4)] [] ad h := by
  unfold K_Lines_momentBehind_J24 at hE
  refine g_iload C0 3 d_Lines_momentBehind_24 rfl ?_
  obtain ⟨v26, z26, hE⟩ := bd_some hE
  refine g_calliP C0 nd_Lines [] rfl (sb_E_Lines) (runSN C0 (m_C_squareOf l K ad h x4 z26) 1 ⟨t_1013, t_806, t_85, t_807⟩ cd_C_squareOf (by decide) (sb_E_Lines) nd_E rfl rfl (Nat.le_of_ble_eq_true rfl) d_Lines_momentBehind_26) ?_
  exact w_Lines_momentBehind_J29 C0 hr x1 x2 x4 v26 h hE
theorem w_Lines_momentBehind {p : Program} {l : Launch} {e : Env} {s : State} {m : MethodId} {args : Array Value} {below : List Frame} {meth : Method} {c : Code} {K : KT} {A : Nat → Prop} (C0 : Cx p s m args meth c prog_6_method_7_code "CanoeSides$Lines" 7 K A) (hr : meth.sig.returnType = (Option.some Jvm.ClassFile.FieldType.int)) {ad : Nat → Nat} (a0 : Int32) (b0 : Int32) (d0 : Int32) (h : Hp) {res : Int32} (hE : K_Lines_momentBehind a0 b0 d0 h = some res) : G p l e rm_Lines_momentBehind s m args below meth c K A WLines 7 0 0 (QI s args below K A WLines 0 0 ad res h) 0 [(0, .ref (ad 60)), (1, .int a0), (2, .int b0), (3, .ref (ad 20)), (4, .int d0)] [] ad h := by
  unfold K_Lines_momentBehind at hE
  refine g_iload_n C0 1 d_Lines_momentBehind_0 rfl rfl ?_
  have hB := ite_some hE
  refine g_if_le C0 (tgt := 24) d_Lines_momentBehind_1 (by decide) (fun c_ => ?_) (fun c_ => ?_)
  · replace hE := hB.1 c_
    refine g_sub [1, 2, 3, 4] (L' := [(1, .int a0), (2, .int b0), (3, .ref (ad 20)), (4, .int d0)]) rfl ?_
    exact w_Lines_momentBehind_J24 C0 hr a0 b0 d0 h hE
  · replace hE := hB.2 c_
    refine g_iload_n C0 1 d_Lines_momentBehind_4 rfl rfl ?_
    refine g_aload_n C0 0 d_Lines_momentBehind_5 rfl rfl ?_
    refine g_getr C0 CK_4 0 (by decide) t_271 0 rfl rfl d_Lines_momentBehind_6 ?_
    refine g_alen C0 1 rfl rfl (v := 4) (by decide) d_Lines_momentBehind_9 ?_
    have hB := ite_some hE
    refine g_icmp_gt C0 (tgt := 24) d_Lines_momentBehind_10 (by decide) (fun c_ => ?_) (fun c_ => ?_)
    · replace hE := hB.1 c_
      refine g_sub [1, 2, 3, 4] (L' := [(1, .int a0), (2, .int b0), (3, .ref (ad 20)), (4, .int d0)]) rfl ?_
      exact w_Lines_momentBehind_J24 C0 hr a0 b0 d0 h hE
    · replace hE := hB.2 c_
      refine g_aload_n C0 0 d_Lines_momentBehind_13 rfl rfl ?_
      refine g_getr C0 CK_4 0 (by decide) t_271 0 rfl rfl d_Lines_momentBehind_14 ?_
      refine g_iload_n C0 1 d_Lines_momentBehind_17 rfl rfl ?_
      refine g_iconst C0 (v := 1) d_Lines_momentBehind_18 (by decide) ?_
      refine g_isub C0 d_Lines_momentBehind_19 ?_
      obtain ⟨q20, v20, e20, hE⟩ := gA_some hE
      refine g_iald C0 1 rfl q20 d_Lines_momentBehind_20 ?_
      refine g_top e20 ?_
      refine g_goto C0 (tgt := 29) d_Lines_momentBehind_21 (by decide) ?_
      refine g_sub [1, 2, 3, 4] (L' := [(1, .int a0), (2, .int b0), (3, .ref (ad 20)), (4, .int d0)]) rfl ?_
      exact w_Lines_momentBehind_J29 C0 hr a0 b0 d0 v20 h hE
theorem m_Lines_momentBehind (l : Launch) (K : KT) (ad : Nat → Nat) (h : Hp) (a0 : Int32) (b0 : Int32) (d0 : Int32) {res : Int32} (hE : K_Lines_momentBehind a0 b0 d0 h = some res) : ConI l y_Lines_momentBehind prog_6_method_7_code 7 (Option.some Jvm.ClassFile.FieldType.int) rm_Lines_momentBehind K WLines ad h [.ref (ad 60), .int a0, .int b0, .ref (ad 20), .int d0] res h := fun sz =>
  con_start [(0, .ref (ad 60)), (1, .int a0), (2, .int b0), (3, .ref (ad 20)), (4, .int d0)] (by decide +kernel) rfl (Nat.le_of_ble_eq_true rfl) (fun p e s m args below meth c C0 hr hnm hsz => w_Lines_momentBehind C0 hr a0 b0 d0 h hE)
abbrev y_C_headingOf : MethodName := ⟨"CanoeSides", "headingOf", "(I)I"⟩
abbrev rm_C_headingOf : Room := { frames := 0, cells := 0, slots := 0, locals := 0 }
theorem cd_C_headingOf : cwd y_C_headingOf 1 := by decide +kernel
theorem d_C_headingOf_0 : decode prog_1_method_35_code 0 = .ok (.iload_n 0, 1) := by decide +kernel
theorem d_C_headingOf_1 : decode prog_1_method_35_code 1 = .ok (.bipush 8, 2) := by decide +kernel
theorem d_C_headingOf_3 : decode prog_1_method_35_code 3 = .ok (.irem, 1) := by decide +kernel
theorem d_C_headingOf_4 : decode prog_1_method_35_code 4 = .ok (.ireturn, 1) := by decide +kernel
theorem w_C_headingOf {p : Program} {l : Launch} {e : Env} {s : State} {m : MethodId} {args : Array Value} {below : List Frame} {meth : Method} {c : Code} {K : KT} {A : Nat → Prop} (C0 : Cx p s m args meth c prog_1_method_35_code "CanoeSides" 1 K A) (hr : meth.sig.returnType = (Option.some Jvm.ClassFile.FieldType.int)) {ad : Nat → Nat} (a0 : Int32) (h : Hp) {res : Int32} (hE : K_C_headingOf a0 = some res) : G p l e rm_C_headingOf s m args below meth c K A WE 1 0 0 (QI s args below K A WE 0 0 ad res h) 0 [(0, .int a0)] [] ad h := by
  unfold K_C_headingOf at hE
  refine g_iload_n C0 0 d_C_headingOf_0 rfl rfl ?_
  refine g_bipush C0 (v := 8) d_C_headingOf_1 (by decide) ?_
  refine g_irem C0 d_C_headingOf_3 (by decide) ?_
  obtain rfl := Option.some.inj hE
  exact g_iret C0 hr d_C_headingOf_4
theorem m_C_headingOf (l : Launch) (K : KT) (ad : Nat → Nat) (h : Hp) (a0 : Int32) {res : Int32} (hE : K_C_headingOf a0 = some res) : ConI l y_C_headingOf prog_1_method_35_code 1 (Option.some Jvm.ClassFile.FieldType.int) rm_C_headingOf K WE ad h [.int a0] res h := fun sz =>
  con_start [(0, .int a0)] (by decide +kernel) rfl (Nat.le_of_ble_eq_true rfl) (fun p e s m args below meth c C0 hr hnm hsz => w_C_headingOf C0 hr a0 h hE)
abbrev y_Lines_waysFrom : MethodName := ⟨"CanoeSides$Lines", "waysFrom", "(II)I"⟩
abbrev rm_Lines_waysFrom : Room := { frames := 1, cells := 0, slots := 0, locals := 20 }
theorem cd_Lines_waysFrom : cwd y_Lines_waysFrom 2 := by decide +kernel
theorem d_Lines_waysFrom_0 : decode prog_6_method_8_code 0 = .ok (.iload_n 1, 1) := by decide +kernel
theorem d_Lines_waysFrom_1 : decode prog_6_method_8_code 1 = .ok (.bipush 8, 2) := by decide +kernel
theorem d_Lines_waysFrom_3 : decode prog_6_method_8_code 3 = .ok (.imul, 1) := by decide +kernel
theorem d_Lines_waysFrom_4 : decode prog_6_method_8_code 4 = .ok (.iload_n 2, 1) := by decide +kernel
theorem d_Lines_waysFrom_5 : decode prog_6_method_8_code 5 = .ok (.invokestatic 65, 3) := by decide +kernel
theorem d_Lines_waysFrom_8 : decode prog_6_method_8_code 8 = .ok (.iadd, 1) := by decide +kernel
theorem d_Lines_waysFrom_9 : decode prog_6_method_8_code 9 = .ok (.istore_n 3, 1) := by decide +kernel
theorem d_Lines_waysFrom_10 : decode prog_6_method_8_code 10 = .ok (.iload_n 3, 1) := by decide +kernel
theorem d_Lines_waysFrom_11 : decode prog_6_method_8_code 11 = .ok (.ifCond .lt 21, 3) := by decide +kernel
theorem d_Lines_waysFrom_14 : decode prog_6_method_8_code 14 = .ok (.iload_n 3, 1) := by decide +kernel
theorem d_Lines_waysFrom_15 : decode prog_6_method_8_code 15 = .ok (.aload_n 0, 1) := by decide +kernel
theorem d_Lines_waysFrom_16 : decode prog_6_method_8_code 16 = .ok (.getfield 15, 3) := by decide +kernel
theorem d_Lines_waysFrom_19 : decode prog_6_method_8_code 19 = .ok (.arraylength, 1) := by decide +kernel
theorem d_Lines_waysFrom_20 : decode prog_6_method_8_code 20 = .ok (.if_icmp .ge 12, 3) := by decide +kernel
theorem d_Lines_waysFrom_23 : decode prog_6_method_8_code 23 = .ok (.aload_n 0, 1) := by decide +kernel
theorem d_Lines_waysFrom_24 : decode prog_6_method_8_code 24 = .ok (.getfield 15, 3) := by decide +kernel
theorem d_Lines_waysFrom_27 : decode prog_6_method_8_code 27 = .ok (.iload_n 3, 1) := by decide +kernel
theorem d_Lines_waysFrom_28 : decode prog_6_method_8_code 28 = .ok (.iaload, 1) := by decide +kernel
theorem d_Lines_waysFrom_29 : decode prog_6_method_8_code 29 = .ok (.goto 4, 3) := by decide +kernel
theorem d_Lines_waysFrom_32 : decode prog_6_method_8_code 32 = .ok (.iconst 0, 1) := by decide +kernel
theorem d_Lines_waysFrom_33 : decode prog_6_method_8_code 33 = .ok (.ireturn, 1) := by decide +kernel
theorem w_Lines_waysFrom {p : Program} {l : Launch} {e : Env} {s : State} {m : MethodId} {args : Array Value} {below : List Frame} {meth : Method} {c : Code} {K : KT} {A : Nat → Prop} (C0 : Cx p s m args meth c prog_6_method_8_code "CanoeSides$Lines" 4 K A) (hr : meth.sig.returnType = (Option.some Jvm.ClassFile.FieldType.int)) {ad : Nat → Nat} (a0 : Int32) (b0 : Int32) (h : Hp) {res : Int32} (hE : K_Lines_waysFrom a0 b0 h = some res) : G p l e rm_Lines_waysFrom s m args below meth c K A WLines 4 0 0 (QI s args below K A WLines 0 0 ad res h) 0 [(0, .ref (ad 60)), (1, .int a0), (2, .int b0)] [] ad h := by
  unfold K_Lines_waysFrom at hE
  refine g_iload_n C0 1 d_Lines_waysFrom_0 rfl rfl ?_
  refine g_bipush C0 (v := 8) d_Lines_waysFrom_1 (by decide) ?_
  refine g_imul C0 d_Lines_waysFrom_3 ?_
  refine g_iload_n C0 2 d_Lines_waysFrom_4 rfl rfl ?_
  obtain ⟨v5, z5, hE⟩ := bd_some hE
  refine g_calliP C0 nd_Lines [] rfl (sb_E_Lines) (runSN C0 (m_C_headingOf l K ad h b0 z5) 1 ⟨t_1024, t_723, t_85, t_724⟩ cd_C_headingOf (by decide) (sb_E_Lines) nd_E rfl rfl (Nat.le_of_ble_eq_true rfl) d_Lines_waysFrom_5) ?_
  refine g_iadd C0 d_Lines_waysFrom_8 ?_
  obtain ⟨v9, e9, hE⟩ := nm_some hE
  refine g_top e9 ?_
  refine g_istore_n C0 [(3, .int v9), (0, .ref (ad 60)), (1, .int a0), (2, .int b0)] d_Lines_waysFrom_9 rfl (by decide) rfl ?_
  refine g_iload_n C0 0 d_Lines_waysFrom_10 rfl rfl ?_
  have hB := ite_some hE
  refine g_if_lt C0 (tgt := 32) d_Lines_waysFrom_11 (by decide) (fun c_ => ?_) (fun c_ => ?_)
  · replace hE := hB.1 c_
    refine g_iconst C0 (v := 0) d_Lines_waysFrom_32 (by decide) ?_
    obtain rfl := Option.some.inj hE
    exact g_iret C0 hr d_Lines_waysFrom_33
  · replace hE := hB.2 c_
    refine g_iload_n C0 0 d_Lines_waysFrom_14 rfl rfl ?_
    refine g_aload_n C0 1 d_Lines_waysFrom_15 rfl rfl ?_
    refine g_getr C0 CK_4 1 (by decide) t_272 0 rfl rfl d_Lines_waysFrom_16 ?_
    refine g_alen C0 2 rfl rfl (v := 40) (by decide) d_Lines_waysFrom_19 ?_
    have hB := ite_some hE
    refine g_icmp_ge C0 (tgt := 32) d_Lines_waysFrom_20 (by decide) (fun c_ => ?_) (fun c_ => ?_)
    · replace hE := hB.1 c_
      refine g_iconst C0 (v := 0) d_Lines_waysFrom_32 (by decide) ?_
      obtain rfl := Option.some.inj hE
      exact g_iret C0 hr d_Lines_waysFrom_33
    · replace hE := hB.2 c_
      refine g_aload_n C0 1 d_Lines_waysFrom_23 rfl rfl ?_
      refine g_getr C0 CK_4 1 (by decide) t_272 0 rfl rfl d_Lines_waysFrom_24 ?_
      refine g_iload_n C0 0 d_Lines_waysFrom_27 rfl rfl ?_
      obtain ⟨q28, v28, e28, hE⟩ := gA_some hE
      refine g_iald C0 2 rfl q28 d_Lines_waysFrom_28 ?_
      refine g_top e28 ?_
      refine g_goto C0 (tgt := 33) d_Lines_waysFrom_29 (by decide) ?_
      obtain rfl := Option.some.inj hE
      exact g_iret C0 hr d_Lines_waysFrom_33
theorem m_Lines_waysFrom (l : Launch) (K : KT) (ad : Nat → Nat) (h : Hp) (a0 : Int32) (b0 : Int32) {res : Int32} (hE : K_Lines_waysFrom a0 b0 h = some res) : ConI l y_Lines_waysFrom prog_6_method_8_code 4 (Option.some Jvm.ClassFile.FieldType.int) rm_Lines_waysFrom K WLines ad h [.ref (ad 60), .int a0, .int b0] res h := fun sz =>
  con_start [(0, .ref (ad 60)), (1, .int a0), (2, .int b0)] (by decide +kernel) rfl (Nat.le_of_ble_eq_true rfl) (fun p e s m args below meth c C0 hr hnm hsz => w_Lines_waysFrom C0 hr a0 b0 h hE)
abbrev y_Lines_waysBehind : MethodName := ⟨"CanoeSides$Lines", "waysBehind", "(II)I"⟩
abbrev rm_Lines_waysBehind : Room := { frames := 2, cells := 0, slots := 0, locals := 43 }
theorem cd_Lines_waysBehind : cwd y_Lines_waysBehind 2 := by decide +kernel
theorem d_Lines_waysBehind_0 : decode prog_6_method_9_code 0 = .ok (.iload_n 1, 1) := by decide +kernel
theorem d_Lines_waysBehind_1 : decode prog_6_method_9_code 1 = .ok (.ifCond .lt 37, 3) := by decide +kernel
theorem d_Lines_waysBehind_4 : decode prog_6_method_9_code 4 = .ok (.iload_n 1, 1) := by decide +kernel
theorem d_Lines_waysBehind_5 : decode prog_6_method_9_code 5 = .ok (.aload_n 0, 1) := by decide +kernel
theorem d_Lines_waysBehind_6 : decode prog_6_method_9_code 6 = .ok (.getfield 24, 3) := by decide +kernel
theorem d_Lines_waysBehind_9 : decode prog_6_method_9_code 9 = .ok (.if_icmp .ge 29, 3) := by decide +kernel
theorem d_Lines_waysBehind_12 : decode prog_6_method_9_code 12 = .ok (.iload_n 1, 1) := by decide +kernel
theorem d_Lines_waysBehind_13 : decode prog_6_method_9_code 13 = .ok (.aload_n 0, 1) := by decide +kernel
theorem d_Lines_waysBehind_14 : decode prog_6_method_9_code 14 = .ok (.getfield 9, 3) := by decide +kernel
theorem d_Lines_waysBehind_17 : decode prog_6_method_9_code 17 = .ok (.arraylength, 1) := by decide +kernel
theorem d_Lines_waysBehind_18 : decode prog_6_method_9_code 18 = .ok (.if_icmp .ge 20, 3) := by decide +kernel
theorem d_Lines_waysBehind_21 : decode prog_6_method_9_code 21 = .ok (.iload_n 2, 1) := by decide +kernel
theorem d_Lines_waysBehind_22 : decode prog_6_method_9_code 22 = .ok (.invokestatic 37, 3) := by decide +kernel
theorem d_Lines_waysBehind_25 : decode prog_6_method_9_code 25 = .ok (.aload_n 0, 1) := by decide +kernel
theorem d_Lines_waysBehind_26 : decode prog_6_method_9_code 26 = .ok (.getfield 9, 3) := by decide +kernel
theorem d_Lines_waysBehind_29 : decode prog_6_method_9_code 29 = .ok (.iload_n 1, 1) := by decide +kernel
theorem d_Lines_waysBehind_30 : decode prog_6_method_9_code 30 = .ok (.iaload, 1) := by decide +kernel
theorem d_Lines_waysBehind_31 : decode prog_6_method_9_code 31 = .ok (.if_icmp .ne 7, 3) := by decide +kernel
theorem d_Lines_waysBehind_34 : decode prog_6_method_9_code 34 = .ok (.iconst 1, 1) := by decide +kernel
theorem d_Lines_waysBehind_35 : decode prog_6_method_9_code 35 = .ok (.goto 4, 3) := by decide +kernel
theorem d_Lines_waysBehind_38 : decode prog_6_method_9_code 38 = .ok (.iconst 0, 1) := by decide +kernel
theorem d_Lines_waysBehind_39 : decode prog_6_method_9_code 39 = .ok (.istore_n 3, 1) := by decide +kernel
theorem d_Lines_waysBehind_40 : decode prog_6_method_9_code 40 = .ok (.iload_n 3, 1) := by decide +kernel
theorem d_Lines_waysBehind_41 : decode prog_6_method_9_code 41 = .ok (.ifCond .eq 14, 3) := by decide +kernel
theorem d_Lines_waysBehind_44 : decode prog_6_method_9_code 44 = .ok (.aload_n 0, 1) := by decide +kernel
theorem d_Lines_waysBehind_45 : decode prog_6_method_9_code 45 = .ok (.iload_n 1, 1) := by decide +kernel
theorem d_Lines_waysBehind_46 : decode prog_6_method_9_code 46 = .ok (.iconst 1, 1) := by decide +kernel
theorem d_Lines_waysBehind_47 : decode prog_6_method_9_code 47 = .ok (.iadd, 1) := by decide +kernel
theorem d_Lines_waysBehind_48 : decode prog_6_method_9_code 48 = .ok (.iload_n 2, 1) := by decide +kernel
theorem d_Lines_waysBehind_49 : decode prog_6_method_9_code 49 = .ok (.invokevirtual 68, 3) := by decide +kernel
theorem d_Lines_waysBehind_52 : decode prog_6_method_9_code 52 = .ok (.goto 4, 3) := by decide +kernel
theorem d_Lines_waysBehind_55 : decode prog_6_method_9_code 55 = .ok (.iconst 0, 1) := by decide +kernel
theorem d_Lines_waysBehind_56 : decode prog_6_method_9_code 56 = .ok (.ireturn, 1) := by decide +kernel
theorem w_Lines_waysBehind_J39 {p : Program} {l : Launch} {e : Env} {s : State} {m : MethodId} {args : Array Value} {below : List Frame} {meth : Method} {c : Code} {K : KT} {A : Nat → Prop} (C0 : Cx p s m args meth c prog_6_method_9_code "CanoeSides$Lines" 4 K A) (hr : meth.sig.returnType = (Option.some Jvm.ClassFile.FieldType.int)) {ad : Nat → Nat} (x1 : Int32) (x2 : Int32) (y0 : Int32) (h : Hp) {res : Int32} (hE : K_Lines_waysBehind_J39 x1 x2 y0 h = some res) : G p l e rm_Lines_waysBehind s m args below meth c K A WLines 4 0 0 (QI s args below K A WLines 0 0 ad res h) 39 [(0, .ref (ad 60)), (1, .int x1), (2, .int x2)] [.int y0] ad h := by
  unfold K_Lines_waysBehind_J39 at hE
  refine g_istore_n C0 [(3, .int y0), (0, .ref (ad 60)), (1, .int x1), (2, .int x2)] d_Lines_waysBehind_39 rfl (by decide) rfl ?_
  refine g_iload_n C0 0 d_Lines_waysBehind_40 rfl rfl ?_
  have hB := ite_some hE
  refine g_if_eq C0 (tgt := 55) d_Lines_waysBehind_41 (by decide) (fun c_ => ?_) (fun c_ => ?_)
  · replace hE := hB.1 c_
    refine g_iconst C0 (v := 0) d_Lines_waysBehind_55 (by decide) ?_
    obtain rfl := Option.some.inj hE
    exact g_iret C0 hr d_Lines_waysBehind_56
  · replace hE := hB.2 c_
    refine g_aload_n C0 1 d_Lines_waysBehind_44 rfl rfl ?_
    refine g_iload_n C0 2 d_Lines_waysBehind_45 rfl rfl ?_
    refine g_iconst C0 (v := 1) d_Lines_waysBehind_46 (by decide) ?_
    refine g_iadd C0 d_Lines_waysBehind_47 ?_
    refine g_iload_n C0 3 d_Lines_waysBehind_48 rfl rfl ?_
    obtain ⟨v49, z49, hE⟩ := bd_some hE
    refine g_calliP C0 nd_Lines [60, 61, 62, 63, 64, 20, 21, 22, 15, 16, 17] rfl (sbW_self WLines) (runV C0 (m_Lines_waysFrom l K ad h (x1 + 1) x2 z49) 2 rfl ⟨t_1020, t_1021, t_1022, t_92, t_1023⟩ cd_Lines_waysFrom (by decide) 0 rfl rfl (sbW_self WLines) nd_Lines rfl rfl (Nat.le_of_ble_eq_true rfl) d_Lines_waysBehind_49) ?_
    refine g_goto C0 (tgt := 56) d_Lines_waysBehind_52 (by decide) ?_
    obtain rfl := Option.some.inj hE
    exact g_iret C0 hr d_Lines_waysBehind_56
theorem w_Lines_waysBehind_J38 {p : Program} {l : Launch} {e : Env} {s : State} {m : MethodId} {args : Array Value} {below : List Frame} {meth : Method} {c : Code} {K : KT} {A : Nat → Prop} (C0 : Cx p s m args meth c prog_6_method_9_code "CanoeSides$Lines" 4 K A) (hr : meth.sig.returnType = (Option.some Jvm.ClassFile.FieldType.int)) {ad : Nat → Nat} (x1 : Int32) (x2 : Int32) (h : Hp) {res : Int32} (hE : K_Lines_waysBehind_J38 x1 x2 h = some res) : G p l e rm_Lines_waysBehind s m args below meth c K A WLines 4 0 0 (QI s args below K A WLines 0 0 ad res h) 38 [(0, .ref (ad 60)), (1, .int x1), (2, .int x2)] [] ad h := by
  unfold K_Lines_waysBehind_J38 at hE
  refine g_iconst C0 (v := 0) d_Lines_waysBehind_38 (by decide) ?_
  exact w_Lines_waysBehind_J39 C0 hr x1 x2 0 h hE
theorem w_Lines_waysBehind {p : Program} {l : Launch} {e : Env} {s : State} {m : MethodId} {args : Array Value} {below : List Frame} {meth : Method} {c : Code} {K : KT} {A : Nat → Prop} (C0 : Cx p s m args meth c prog_6_method_9_code "CanoeSides$Lines" 4 K A) (hr : meth.sig.returnType = (Option.some Jvm.ClassFile.FieldType.int)) {ad : Nat → Nat} (a0 : Int32) (b0 : Int32) (h : Hp) {res : Int32} (hE : K_Lines_waysBehind a0 b0 h = some res) : G p l e rm_Lines_waysBehind s m args below meth c K A WLines 4 0 0 (QI s args below K A WLines 0 0 ad res h) 0 [(0, .ref (ad 60)), (1, .int a0), (2, .int b0)] [] ad h := by
  unfold K_Lines_waysBehind at hE
  refine g_iload_n C0 1 d_Lines_waysBehind_0 rfl rfl ?_
  have hB := ite_some hE
  refine g_if_lt C0 (tgt := 38) d_Lines_waysBehind_1 (by decide) (fun c_ => ?_) (fun c_ => ?_)
  · replace hE := hB.1 c_
    exact w_Lines_waysBehind_J38 C0 hr a0 b0 h hE
  · replace hE := hB.2 c_
    refine g_iload_n C0 1 d_Lines_waysBehind_4 rfl rfl ?_
    refine g_aload_n C0 0 d_Lines_waysBehind_5 rfl rfl ?_
    refine g_geti C0 CK_4 4 (by decide) t_275 0 rfl rfl d_Lines_waysBehind_6 ?_
    have hB := ite_some hE
    refine g_icmp_ge C0 (tgt := 38) d_Lines_waysBehind_9 (by decide) (fun c_ => ?_) (fun c_ => ?_)
    · replace hE := hB.1 c_
      exact w_Lines_waysBehind_J38 C0 hr a0 b0 h hE
    · replace hE := hB.2 c_
      refine g_iload_n C0 1 d_Lines_waysBehind_12 rfl rfl ?_
      refine g_aload_n C0 0 d_Lines_waysBehind_13 rfl rfl ?_
      refine g_getr C0 CK_4 0 (by decide) t_271 0 rfl rfl d_Lines_waysBehind_14 ?_
      refine g_alen C0 1 rfl rfl (v := 4) (by decide) d_Lines_waysBehind_17 ?_
      have hB := ite_some hE
      refine g_icmp_ge C0 (tgt := 38) d_Lines_waysBehind_18 (by decide) (fun c_ => ?_) (fun c_ => ?_)
      · replace hE := hB.1 c_
        exact w_Lines_waysBehind_J38 C0 hr a0 b0 h hE
      · replace hE := hB.2 c_
        refine g_iload_n C0 2 d_Lines_waysBehind_21 rfl rfl ?_
        obtain ⟨v22, z22, hE⟩ := bd_some hE
        refine g_calliP C0 nd_Lines [] rfl (sb_E_Lines) (runSN C0 (m_C_squareOf l K ad h b0 z22) 1 ⟨t_1013, t_806, t_85, t_807⟩ cd_C_squareOf (by decide) (sb_E_Lines) nd_E rfl rfl (Nat.le_of_ble_eq_true rfl) d_Lines_waysBehind_22) ?_
        refine g_aload_n C0 0 d_Lines_waysBehind_25 rfl rfl ?_
        refine g_getr C0 CK_4 0 (by decide) t_271 0 rfl rfl d_Lines_waysBehind_26 ?_
        refine g_iload_n C0 1 d_Lines_waysBehind_29 rfl rfl ?_
        obtain ⟨q30, v30, e30, hE⟩ := gA_some hE
        refine g_iald C0 1 rfl q30 d_Lines_waysBehind_30 ?_
        refine g_top e30 ?_
        have hB := ite_some hE
        refine g_icmp_ne C0 (tgt := 38) d_Lines_waysBehind_31 (by decide) (fun c_ => ?_) (fun c_ => ?_)
        · replace hE := hB.2 c_
          exact w_Lines_waysBehind_J38 C0 hr a0 b0 h hE
        · replace hE := hB.1 c_
          refine g_iconst C0 (v := 1) d_Lines_waysBehind_34 (by decide) ?_
          refine g_goto C0 (tgt := 39) d_Lines_waysBehind_35 (by decide) ?_
          exact w_Lines_waysBehind_J39 C0 hr a0 b0 1 h hE
theorem m_Lines_waysBehind (l : Launch) (K : KT) (ad : Nat → Nat) (h : Hp) (a0 : Int32) (b0 : Int32) {res : Int32} (hE : K_Lines_waysBehind a0 b0 h = some res) : ConI l y_Lines_waysBehind prog_6_method_9_code 4 (Option.some Jvm.ClassFile.FieldType.int) rm_Lines_waysBehind K WLines ad h [.ref (ad 60), .int a0, .int b0] res h := fun sz =>
  con_start [(0, .ref (ad 60)), (1, .int a0), (2, .int b0)] (by decide +kernel) rfl (Nat.le_of_ble_eq_true rfl) (fun p e s m args below meth c C0 hr hnm hsz => w_Lines_waysBehind C0 hr a0 b0 h hE)
abbrev y_Lines_countWays : MethodName := ⟨"CanoeSides$Lines", "countWays", "(LCanoeSides$Crew;I)V"⟩
abbrev rm_Lines_countWays : Room := { frames := 3, cells := 0, slots := 0, locals := 73 }
theorem cd_Lines_countWays : cwd y_Lines_countWays 2 := by decide +kernel
theorem d_Lines_countWays_0 : decode prog_6_method_6_code 0 = .ok (.iconst 0, 1) := by decide +kernel
theorem d_Lines_countWays_1 : decode prog_6_method_6_code 1 = .ok (.istore_n 3, 1) := by decide +kernel
theorem d_Lines_countWays_2 : decode prog_6_method_6_code 2 = .ok (.iload_n 3, 1) := by decide +kernel
theorem d_Lines_countWays_3 : decode prog_6_method_6_code 3 = .ok (.aload_n 0, 1) := by decide +kernel
theorem d_Lines_countWays_4 : decode prog_6_method_6_code 4 = .ok (.getfield 15, 3) := by decide +kernel
theorem d_Lines_countWays_7 : decode prog_6_method_6_code 7 = .ok (.arraylength, 1) := by decide +kernel
theorem d_Lines_countWays_8 : decode prog_6_method_6_code 8 = .ok (.if_icmp .ge 31, 3) := by decide +kernel
theorem d_Lines_countWays_11 : decode prog_6_method_6_code 11 = .ok (.aload_n 0, 1) := by decide +kernel
theorem d_Lines_countWays_12 : decode prog_6_method_6_code 12 = .ok (.getfield 15, 3) := by decide +kernel
theorem d_Lines_countWays_15 : decode prog_6_method_6_code 15 = .ok (.iload_n 3, 1) := by decide +kernel
theorem d_Lines_countWays_16 : decode prog_6_method_6_code 16 = .ok (.iload_n 3, 1) := by decide +kernel
theorem d_Lines_countWays_17 : decode prog_6_method_6_code 17 = .ok (.bipush 8, 2) := by decide +kernel
theorem d_Lines_countWays_19 : decode prog_6_method_6_code 19 = .ok (.idiv, 1) := by decide +kernel
theorem d_Lines_countWays_20 : decode prog_6_method_6_code 20 = .ok (.aload_n 0, 1) := by decide +kernel
theorem d_Lines_countWays_21 : decode prog_6_method_6_code 21 = .ok (.getfield 24, 3) := by decide +kernel
theorem d_Lines_countWays_24 : decode prog_6_method_6_code 24 = .ok (.if_icmp .ne 7, 3) := by decide +kernel
theorem d_Lines_countWays_27 : decode prog_6_method_6_code 27 = .ok (.iconst 1, 1) := by decide +kernel
theorem d_Lines_countWays_28 : decode prog_6_method_6_code 28 = .ok (.goto 4, 3) := by decide +kernel
theorem d_Lines_countWays_31 : decode prog_6_method_6_code 31 = .ok (.iconst 0, 1) := by decide +kernel
theorem d_Lines_countWays_32 : decode prog_6_method_6_code 32 = .ok (.iastore, 1) := by decide +kernel
theorem d_Lines_countWays_33 : decode prog_6_method_6_code 33 = .ok (.iinc 3 1, 3) := by decide +kernel
theorem d_Lines_countWays_36 : decode prog_6_method_6_code 36 = .ok (.goto (-34), 3) := by decide +kernel
theorem d_Lines_countWays_39 : decode prog_6_method_6_code 39 = .ok (.iconst 0, 1) := by decide +kernel
theorem d_Lines_countWays_40 : decode prog_6_method_6_code 40 = .ok (.aload_n 0, 1) := by decide +kernel
theorem d_Lines_countWays_41 : decode prog_6_method_6_code 41 = .ok (.getfield 24, 3) := by decide +kernel
theorem d_Lines_countWays_44 : decode prog_6_method_6_code 44 = .ok (.bipush 8, 2) := by decide +kernel
theorem d_Lines_countWays_46 : decode prog_6_method_6_code 46 = .ok (.imul, 1) := by decide +kernel
theorem d_Lines_countWays_47 : decode prog_6_method_6_code 47 = .ok (.aload_n 0, 1) := by decide +kernel
theorem d_Lines_countWays_48 : decode prog_6_method_6_code 48 = .ok (.getfield 15, 3) := by decide +kernel
theorem d_Lines_countWays_51 : decode prog_6_method_6_code 51 = .ok (.arraylength, 1) := by decide +kernel
theorem d_Lines_countWays_52 : decode prog_6_method_6_code 52 = .ok (.invokestatic 41, 3) := by decide +kernel
theorem d_Lines_countWays_55 : decode prog_6_method_6_code 55 = .ok (.invokestatic 46, 3) := by decide +kernel
theorem d_Lines_countWays_58 : decode prog_6_method_6_code 58 = .ok (.istore_n 3, 1) := by decide +kernel
theorem d_Lines_countWays_59 : decode prog_6_method_6_code 59 = .ok (.iload_n 3, 1) := by decide +kernel
theorem d_Lines_countWays_60 : decode prog_6_method_6_code 60 = .ok (.iconst 1, 1) := by decide +kernel
theorem d_Lines_countWays_61 : decode prog_6_method_6_code 61 = .ok (.isub, 1) := by decide +kernel
theorem d_Lines_countWays_62 : decode prog_6_method_6_code 62 = .ok (.istore 4, 2) := by decide +kernel
theorem d_Lines_countWays_64 : decode prog_6_method_6_code 64 = .ok (.iload 4, 2) := by decide +kernel
theorem d_Lines_countWays_66 : decode prog_6_method_6_code 66 = .ok (.ifCond .lt 78, 3) := by decide +kernel
theorem d_Lines_countWays_69 : decode prog_6_method_6_code 69 = .ok (.iload 4, 2) := by decide +kernel
theorem d_Lines_countWays_71 : decode prog_6_method_6_code 71 = .ok (.bipush 8, 2) := by decide +kernel
theorem d_Lines_countWays_73 : decode prog_6_method_6_code 73 = .ok (.idiv, 1) := by decide +kernel
theorem d_Lines_countWays_74 : decode prog_6_method_6_code 74 = .ok (.istore 5, 2) := by decide +kernel
theorem d_Lines_countWays_76 : decode prog_6_method_6_code 76 = .ok (.aload_n 0, 1) := by decide +kernel
theorem d_Lines_countWays_77 : decode prog_6_method_6_code 77 = .ok (.iload 5, 2) := by decide +kernel
theorem d_Lines_countWays_79 : decode prog_6_method_6_code 79 = .ok (.iload 4, 2) := by decide +kernel
theorem d_Lines_countWays_81 : decode prog_6_method_6_code 81 = .ok (.bipush 8, 2) := by decide +kernel
theorem d_Lines_countWays_83 : decode prog_6_method_6_code 83 = .ok (.irem, 1) := by decide +kernel
theorem d_Lines_countWays_84 : decode prog_6_method_6_code 84 = .ok (.aload_n 1, 1) := by decide +kernel
theorem d_Lines_countWays_85 : decode prog_6_method_6_code 85 = .ok (.iload_n 2, 1) := by decide +kernel
theorem d_Lines_countWays_86 : decode prog_6_method_6_code 86 = .ok (.invokevirtual 49, 3) := by decide +kernel
theorem d_Lines_countWays_89 : decode prog_6_method_6_code 89 = .ok (.istore 6, 2) := by decide +kernel
theorem d_Lines_countWays_91 : decode prog_6_method_6_code 91 = .ok (.iconst 0, 1) := by decide +kernel
theorem d_Lines_countWays_92 : decode prog_6_method_6_code 92 = .ok (.istore 7, 2) := by decide +kernel
theorem d_Lines_countWays_94 : decode prog_6_method_6_code 94 = .ok (.iconst 0, 1) := by decide +kernel
theorem d_Lines_countWays_95 : decode prog_6_method_6_code 95 = .ok (.istore 8, 2) := by decide +kernel
theorem d_Lines_countWays_97 : decode prog_6_method_6_code 97 = .ok (.iload 8, 2) := by decide +kernel
theorem d_Lines_countWays_99 : decode prog_6_method_6_code 99 = .ok (.bipush 16, 2) := by decide +kernel
theorem d_Lines_countWays_101 : decode prog_6_method_6_code 101 = .ok (.if_icmp .ge 28, 3) := by decide +kernel
theorem d_Lines_countWays_104 : decode prog_6_method_6_code 104 = .ok (.iload 7, 2) := by decide +kernel
theorem d_Lines_countWays_106 : decode prog_6_method_6_code 106 = .ok (.aload_n 0, 1) := by decide +kernel
theorem d_Lines_countWays_107 : decode prog_6_method_6_code 107 = .ok (.iload 5, 2) := by decide +kernel
theorem d_Lines_countWays_109 : decode prog_6_method_6_code 109 = .ok (.aload_n 1, 1) := by decide +kernel
theorem d_Lines_countWays_110 : decode prog_6_method_6_code 110 = .ok (.iload 6, 2) := by decide +kernel
theorem d_Lines_countWays_112 : decode prog_6_method_6_code 112 = .ok (.iload 8, 2) := by decide +kernel
theorem d_Lines_countWays_114 : decode prog_6_method_6_code 114 = .ok (.invokevirtual 31, 3) := by decide +kernel
theorem d_Lines_countWays_117 : decode prog_6_method_6_code 117 = .ok (.invokevirtual 53, 3) := by decide +kernel
theorem d_Lines_countWays_120 : decode prog_6_method_6_code 120 = .ok (.iadd, 1) := by decide +kernel
theorem d_Lines_countWays_121 : decode prog_6_method_6_code 121 = .ok (.istore 7, 2) := by decide +kernel
theorem d_Lines_countWays_123 : decode prog_6_method_6_code 123 = .ok (.iinc 8 1, 3) := by decide +kernel
theorem d_Lines_countWays_126 : decode prog_6_method_6_code 126 = .ok (.goto (-29), 3) := by decide +kernel
theorem d_Lines_countWays_129 : decode prog_6_method_6_code 129 = .ok (.aload_n 0, 1) := by decide +kernel
theorem d_Lines_countWays_130 : decode prog_6_method_6_code 130 = .ok (.getfield 15, 3) := by decide +kernel
theorem d_Lines_countWays_133 : decode prog_6_method_6_code 133 = .ok (.iload 4, 2) := by decide +kernel
theorem d_Lines_countWays_135 : decode prog_6_method_6_code 135 = .ok (.iload 7, 2) := by decide +kernel
theorem d_Lines_countWays_137 : decode prog_6_method_6_code 137 = .ok (.iastore, 1) := by decide +kernel
theorem d_Lines_countWays_138 : decode prog_6_method_6_code 138 = .ok (.iinc 4 (-1), 3) := by decide +kernel
theorem d_Lines_countWays_141 : decode prog_6_method_6_code 141 = .ok (.goto (-77), 3) := by decide +kernel
theorem d_Lines_countWays_144 : decode prog_6_method_6_code 144 = .ok (.return_, 1) := by decide +kernel
theorem w_Lines_countWays_J32 {p : Program} {l : Launch} {e : Env} {s : State} {m : MethodId} {args : Array Value} {below : List Frame} {meth : Method} {c : Code} {K : KT} {A : Nat → Prop} {Q : State → Prop} (C0 : Cx p s m args meth c prog_6_method_6_code "CanoeSides$Lines" 9 K A) (hr : meth.sig.returnType = (Option.none : Option Jvm.ClassFile.FieldType)) {ad : Nat → Nat} (N : Nat) (x2 : Int32) (x3 : Int32) (y1 : Int32) (y2 : Int32) (h : Hp) {x_ : (Int32 × Hp) ⊕ (Hp)} (hE : K_Lines_countWays_J32 N x2 x3 y1 y2 h = some x_) (hk1 : ∀ z_, x_ = .inl z_ → G p l e rm_Lines_countWays s m args below meth c K A WLines 9 0 0 Q 2 [(0, .ref (ad 60)), (1, .ref (ad 20)), (2, .int x2), (3, .int z_.1)] [] ad z_.2) (hk3 : ∀ z_, x_ = .inr z_ → G p l e rm_Lines_countWays s m args below meth c K A WLines 9 0 0 Q 39 [(0, .ref (ad 60)), (1, .ref (ad 20)), (2, .int x2)] [] ad z_) : G p l e rm_Lines_countWays s m args below meth c K A WLines 9 0 0 Q 32 [(0, .ref (ad 60)), (1, .ref (ad 20)), (2, .int x2), (3, .int x3)] [.int y2, .int y1, .ref (ad 62)] ad h := by
  unfold K_Lines_countWays_J32 at hE
  obtain ⟨q32, hE⟩ := sA_some hE
  obtain ⟨h32, e32, hE⟩ := nm_some hE
  refine g_iast C0 2 rfl nd_Lines q32 d_Lines_countWays_32 ?_
  refine g_heap e32 ?_
  obtain ⟨v33, e33, hE⟩ := nm_some hE
  refine g_iinc C0 3 [(3, .int v33), (0, .ref (ad 60)), (1, .ref (ad 20)), (2, .int x2)] d_Lines_countWays_33 rfl (by rw [e33]; rfl) (by decide) rfl ?_
  refine g_goto C0 (tgt := 2) d_Lines_countWays_36 (by decide) ?_
  refine g_sub [1, 2, 3, 0] (L' := [(0, .ref (ad 60)), (1, .ref (ad 20)), (2, .int x2), (3, .int v33)]) rfl ?_
  exact hk1 _ (Option.some.inj hE).symm
theorem w_Lines_countWays_L2 {p : Program} {l : Launch} {e : Env} {s : State} {m : MethodId} {args : Array Value} {below : List Frame} {meth : Method} {c : Code} {K : KT} {A : Nat → Prop} {Q : State → Prop} (C0 : Cx p s m args meth c prog_6_method_6_code "CanoeSides$Lines" 9 K A) (hr : meth.sig.returnType = (Option.none : Option Jvm.ClassFile.FieldType)) {ad : Nat → Nat} (N : Nat) (x2 : Int32) (x3 : Int32) (h : Hp) {x_ : (Int32 × Hp) ⊕ (Hp)} (hE : K_Lines_countWays_L2 N x2 x3 h = some x_) (hk1 : ∀ z_, x_ = .inl z_ → G p l e rm_Lines_countWays s m args below meth c K A WLines 9 0 0 Q 2 [(0, .ref (ad 60)), (1, .ref (ad 20)), (2, .int x2), (3, .int z_.1)] [] ad z_.2) (hk3 : ∀ z_, x_ = .inr z_ → G p l e rm_Lines_countWays s m args below meth c K A WLines 9 0 0 Q 39 [(0, .ref (ad 60)), (1, .ref (ad 20)), (2, .int x2)] [] ad z_) : G p l e rm_Lines_countWays s m args below meth c K A WLines 9 0 0 Q 2 [(0, .ref (ad 60)), (1, .ref (ad 20)), (2, .int x2), (3, .int x3)] [] ad h := by
  unfold K_Lines_countWays_L2 at hE
  refine g_iload_n C0 3 d_Lines_countWays_2 rfl rfl ?_
  refine g_aload_n C0 0 d_Lines_countWays_3 rfl rfl ?_
  refine g_getr C0 CK_4 1 (by decide) t_272 0 rfl rfl d_Lines_countWays_4 ?_
  refine g_alen C0 2 rfl rfl (v := 40) (by decide) d_Lines_countWays_7 ?_
  have hB := ite_some hE
  refine g_icmp_ge C0 (tgt := 39) d_Lines_countWays_8 (by decide) (fun c_ => ?_) (fun c_ => ?_)
  · replace hE := hB.1 c_
    refine g_sub [0, 1, 2] (L' := [(0, .ref (ad 60)), (1, .ref (ad 20)), (2, .int x2)]) rfl ?_
    exact hk3 _ (Option.some.inj hE).symm
  · replace hE := hB.2 c_
    refine g_aload_n C0 0 d_Lines_countWays_11 rfl rfl ?_
    refine g_getr C0 CK_4 1 (by decide) t_272 0 rfl rfl d_Lines_countWays_12 ?_
    refine g_iload_n C0 3 d_Lines_countWays_15 rfl rfl ?_
    refine g_iload_n C0 3 d_Lines_countWays_16 rfl rfl ?_
    refine g_bipush C0 (v := 8) d_Lines_countWays_17 (by decide) ?_
    refine g_idiv C0 d_Lines_countWays_19 (by decide) ?_
    refine g_aload_n C0 0 d_Lines_countWays_20 rfl rfl ?_
    refine g_geti C0 CK_4 4 (by decide) t_275 0 rfl rfl d_Lines_countWays_21 ?_
    have hB := ite_some hE
    refine g_icmp_ne C0 (tgt := 31) d_Lines_countWays_24 (by decide) (fun c_ => ?_) (fun c_ => ?_)
    · replace hE := hB.2 c_
      refine g_iconst C0 (v := 0) d_Lines_countWays_31 (by decide) ?_
      exact w_Lines_countWays_J32 C0 hr N x2 x3 x3 0 h hE hk1 hk3
    · replace hE := hB.1 c_
      refine g_iconst C0 (v := 1) d_Lines_countWays_27 (by decide) ?_
      refine g_goto C0 (tgt := 32) d_Lines_countWays_28 (by decide) ?_
      exact w_Lines_countWays_J32 C0 hr N x2 x3 x3 1 h hE hk1 hk3
theorem w_Lines_countWays_L97 {p : Program} {l : Launch} {e : Env} {s : State} {m : MethodId} {args : Array Value} {below : List Frame} {meth : Method} {c : Code} {K : KT} {A : Nat → Prop} {Q : State → Prop} (C0 : Cx p s m args meth c prog_6_method_6_code "CanoeSides$Lines" 9 K A) (hr : meth.sig.returnType = (Option.none : Option Jvm.ClassFile.FieldType)) {ad : Nat → Nat} (N : Nat) (x2 : Int32) (x4 : Int32) (x5 : Int32) (x6 : Int32) (x7 : Int32) (x8 : Int32) (h : Hp) {x_ : (Int32 × Int32) ⊕ (Int32)} (hE : K_Lines_countWays_L97 N x2 x4 x5 x6 x7 x8 h = some x_) (hk1 : ∀ z_, x_ = .inl z_ → G p l e rm_Lines_countWays s m args below meth c K A WLines 9 0 0 Q 97 [(0, .ref (ad 60)), (1, .ref (ad 20)), (2, .int x2), (4, .int x4), (5, .int x5), (6, .int x6), (7, .int z_.1), (8, .int z_.2)] [] ad h) (hk3 : ∀ z_, x_ = .inr z_ → G p l e rm_Lines_countWays s m args below meth c K A WLines 9 0 0 Q 129 [(0, .ref (ad 60)), (1, .ref (ad 20)), (2, .int x2), (4, .int x4), (7, .int z_)] [] ad h) : G p l e rm_Lines_countWays s m args below meth c K A WLines 9 0 0 Q 97 [(0, .ref (ad 60)), (1, .ref (ad 20)), (2, .int x2), (4, .int x4), (5, .int x5), (6, .int x6), (7, .int x7), (8, .int x8)] [] ad h := by
  unfold K_Lines_countWays_L97 at hE
  refine g_iload C0 7 d_Lines_countWays_97 rfl ?_
  refine g_bipush C0 (v := 16) d_Lines_countWays_99 (by decide) ?_
  have hB := ite_some hE
  refine g_icmp_ge C0 (tgt := 129) d_Lines_countWays_101 (by decide) (fun c_ => ?_) (fun c_ => ?_)
  · replace hE := hB.1 c_
    refine g_sub [0, 1, 2, 3, 6] (L' := [(0, .ref (ad 60)), (1, .ref (ad 20)), (2, .int x2), (4, .int x4), (7, .int x7)]) rfl ?_
    exact hk3 _ (Option.some.inj hE).symm
  · replace hE := hB.2 c_
    refine g_iload C0 6 d_Lines_countWays_104 rfl ?_
    refine g_aload_n C0 0 d_Lines_countWays_106 rfl rfl ?_
    refine g_iload C0 4 d_Lines_countWays_107 rfl ?_
    refine g_aload_n C0 1 d_Lines_countWays_109 rfl rfl ?_
    refine g_iload C0 5 d_Lines_countWays_110 rfl ?_
    refine g_iload C0 7 d_Lines_countWays_112 rfl ?_
    obtain ⟨v114, z114, hE⟩ := bd_some hE
    refine g_calliP C0 nd_Lines [20, 21, 22, 15, 16, 17] rfl (sb_Crew_Lines) (runV C0 (m_Crew_after l K ad h x6 x8 z114) 2 rfl ⟨t_1015, t_773, t_774, t_89, t_775⟩ cd_Crew_after (by decide) 5 rfl rfl (sb_Crew_Lines) nd_Crew rfl rfl (Nat.le_of_ble_eq_true rfl) d_Lines_countWays_114) ?_
    obtain ⟨v117, z117, hE⟩ := bd_some hE
    refine g_calliP C0 nd_Lines [60, 61, 62, 63, 64, 20, 21, 22, 15, 16, 17] rfl (sbW_self WLines) (runV C0 (m_Lines_waysBehind l K ad h x5 v114 z117) 2 rfl ⟨t_1016, t_1018, t_39, t_92, t_1019⟩ cd_Lines_waysBehind (by decide) 0 rfl rfl (sbW_self WLines) nd_Lines rfl rfl (Nat.le_of_ble_eq_true rfl) d_Lines_countWays_117) ?_
    refine g_iadd C0 d_Lines_countWays_120 ?_
    obtain ⟨v121, e121, hE⟩ := nm_some hE
    refine g_top e121 ?_
    refine g_istore C0 [(7, .int v121), (0, .ref (ad 60)), (1, .ref (ad 20)), (2, .int x2), (4, .int x4), (5, .int x5), (6, .int x6), (8, .int x8)] d_Lines_countWays_121 (by decide) rfl ?_
    obtain ⟨v123, e123, hE⟩ := nm_some hE
    refine g_iinc C0 7 [(8, .int v123), (7, .int v121), (0, .ref (ad 60)), (1, .ref (ad 20)), (2, .int x2), (4, .int x4), (5, .int x5), (6, .int x6)] d_Lines_countWays_123 rfl (by rw [e123]; rfl) (by decide) rfl ?_
    refine g_goto C0 (tgt := 97) d_Lines_countWays_126 (by decide) ?_
    refine g_sub [2, 3, 4, 5, 6, 7, 1, 0] (L' := [(0, .ref (ad 60)), (1, .ref (ad 20)), (2, .int x2), (4, .int x4), (5, .int x5), (6, .int x6), (7, .int v121), (8, .int v123)]) rfl ?_
    exact hk1 _ (Option.some.inj hE).symm
theorem w_Lines_countWays_L64 {p : Program} {l : Launch} {e : Env} {s : State} {m : MethodId} {args : Array Value} {below : List Frame} {meth : Method} {c : Code} {K : KT} {A : Nat → Prop} {Q : State → Prop} (C0 : Cx p s m args meth c prog_6_method_6_code "CanoeSides$Lines" 9 K A) (hr : meth.sig.returnType = (Option.none : Option Jvm.ClassFile.FieldType)) {ad : Nat → Nat} (N : Nat) (x2 : Int32) (x4 : Int32) (h : Hp) {x_ : (Int32 × Hp) ⊕ (Hp)} (hE : K_Lines_countWays_L64 N x2 x4 h = some x_) (hk1 : ∀ z_, x_ = .inl z_ → G p l e rm_Lines_countWays s m args below meth c K A WLines 9 0 0 Q 64 [(0, .ref (ad 60)), (1, .ref (ad 20)), (2, .int x2), (4, .int z_.1)] [] ad z_.2) (hk3 : ∀ z_, x_ = .inr z_ → G p l e rm_Lines_countWays s m args below meth c K A WLines 9 0 0 Q 144 [] [] ad z_) : G p l e rm_Lines_countWays s m args below meth c K A WLines 9 0 0 Q 64 [(0, .ref (ad 60)), (1, .ref (ad 20)), (2, .int x2), (4, .int x4)] [] ad h := by
  unfold K_Lines_countWays_L64 at hE
  refine g_iload C0 3 d_Lines_countWays_64 rfl ?_
  have hB := ite_some hE
  refine g_if_lt C0 (tgt := 144) d_Lines_countWays_66 (by decide) (fun c_ => ?_) (fun c_ => ?_)
  · replace hE := hB.1 c_
    refine g_sub [] (L' := []) rfl ?_
    exact hk3 _ (Option.some.inj hE).symm
  · replace hE := hB.2 c_
    refine g_iload C0 3 d_Lines_countWays_69 rfl ?_
    refine g_bipush C0 (v := 8) d_Lines_countWays_71 (by decide) ?_
    refine g_idiv C0 d_Lines_countWays_73 (by decide) ?_
    obtain ⟨v74, e74, hE⟩ := nm_some hE
    refine g_top e74 ?_
    refine g_istore C0 [(5, .int v74), (0, .ref (ad 60)), (1, .ref (ad 20)), (2, .int x2), (4, .int x4)] d_Lines_countWays_74 (by decide) rfl ?_
    refine g_aload_n C0 1 d_Lines_countWays_76 rfl rfl ?_
    refine g_iload C0 0 d_Lines_countWays_77 rfl ?_
    refine g_iload C0 4 d_Lines_countWays_79 rfl ?_
    refine g_bipush C0 (v := 8) d_Lines_countWays_81 (by decide) ?_
    refine g_irem C0 d_Lines_countWays_83 (by decide) ?_
    refine g_aload_n C0 2 d_Lines_countWays_84 rfl rfl ?_
    refine g_iload_n C0 3 d_Lines_countWays_85 rfl rfl ?_
    obtain ⟨v86, z86, hE⟩ := bd_some hE
    refine g_calliP C0 nd_Lines [60, 61, 62, 63, 64, 20, 21, 22, 15, 16, 17] rfl (sbW_self WLines) (runV C0 (m_Lines_momentBehind l K ad h v74 (rm32 x4 8) x2 z86) 4 rfl ⟨t_1009, t_1011, t_38, t_92, t_1012⟩ cd_Lines_momentBehind (by decide) 0 rfl rfl (sbW_self WLines) nd_Lines rfl rfl (Nat.le_of_ble_eq_true rfl) d_Lines_countWays_86) ?_
    refine g_istore C0 [(6, .int v86), (5, .int v74), (0, .ref (ad 60)), (1, .ref (ad 20)), (2, .int x2), (4, .int x4)] d_Lines_countWays_89 (by decide) rfl ?_
    refine g_iconst C0 (v := 0) d_Lines_countWays_91 (by decide) ?_
    refine g_istore C0 [(7, .int 0), (6, .int v86), (5, .int v74), (0, .ref (ad 60)), (1, .ref (ad 20)), (2, .int x2), (4, .int x4)] d_Lines_countWays_92 (by decide) rfl ?_
    refine g_iconst C0 (v := 0) d_Lines_countWays_94 (by decide) ?_
    refine g_istore C0 [(8, .int 0), (7, .int 0), (6, .int v86), (5, .int v74), (0, .ref (ad 60)), (1, .ref (ad 20)), (2, .int x2), (4, .int x4)] d_Lines_countWays_95 (by decide) rfl ?_
    refine g_sub [4, 5, 6, 7, 3, 2, 1, 0] (L' := [(0, .ref (ad 60)), (1, .ref (ad 20)), (2, .int x2), (4, .int x4), (5, .int v74), (6, .int v86), (7, .int 0), (8, .int 0)]) rfl ?_
    obtain ⟨t97, z97, hE⟩ := bd_some hE
    refine loopG (fun z_ : Int32 × Int32 => K_Lines_countWays_L97 N x2 x4 v74 v86 z_.1 z_.2 h) (fun z_ : Int32 × Int32 => G p l e rm_Lines_countWays s m args below meth c K A WLines 9 0 0 _ 97 [(0, .ref (ad 60)), (1, .ref (ad 20)), (2, .int x2), (4, .int x4), (5, .int v74), (6, .int v86), (7, .int z_.1), (8, .int z_.2)] [] ad h) (fun z_ : Int32 => G p l e rm_Lines_countWays s m args below meth c K A WLines 9 0 0 _ 129 [(0, .ref (ad 60)), (1, .ref (ad 20)), (2, .int x2), (4, .int x4), (7, .int z_)] [] ad h) (fun z_ x_ hz k1 k2 => w_Lines_countWays_L97 C0 hr N x2 x4 v74 v86 z_.1 z_.2 h hz k1 k2) _ _ _ z97 ?_
    try dsimp only
    refine g_aload_n C0 0 d_Lines_countWays_129 rfl rfl ?_
    refine g_getr C0 CK_4 1 (by decide) t_272 0 rfl rfl d_Lines_countWays_130 ?_
    refine g_iload C0 3 d_Lines_countWays_133 rfl ?_
    refine g_iload C0 4 d_Lines_countWays_135 rfl ?_
    obtain ⟨q137, hE⟩ := sA_some hE
    obtain ⟨h137, e137, hE⟩ := nm_some hE
    refine g_iast C0 2 rfl nd_Lines q137 d_Lines_countWays_137 ?_
    refine g_heap e137 ?_
    obtain ⟨v138, e138, hE⟩ := nm_some hE
    refine g_iinc C0 3 [(4, .int v138), (0, .ref (ad 60)), (1, .ref (ad 20)), (2, .int x2), (7, .int t97)] d_Lines_countWays_138 rfl (by rw [e138]; rfl) (by decide) rfl ?_
    refine g_goto C0 (tgt := 64) d_Lines_countWays_141 (by decide) ?_
    refine g_sub [1, 2, 3, 0] (L' := [(0, .ref (ad 60)), (1, .ref (ad 20)), (2, .int x2), (4, .int v138)]) rfl ?_
    exact hk1 _ (Option.some.inj hE).symm
theorem w_Lines_countWays {p : Program} {l : Launch} {e : Env} {s : State} {m : MethodId} {args : Array Value} {below : List Frame} {meth : Method} {c : Code} {K : KT} {A : Nat → Prop} (C0 : Cx p s m args meth c prog_6_method_6_code "CanoeSides$Lines" 9 K A) (hr : meth.sig.returnType = (Option.none : Option Jvm.ClassFile.FieldType)) {ad : Nat → Nat} (N : Nat) (b0 : Int32) (h : Hp) {res : Hp} (hE : K_Lines_countWays N b0 h = some res) : G p l e rm_Lines_countWays s m args below meth c K A WLines 9 0 0 (QV s args below K A WLines 0 0 ad res) 0 [(0, .ref (ad 60)), (1, .ref (ad 20)), (2, .int b0)] [] ad h := by
  unfold K_Lines_countWays at hE
  refine g_iconst C0 (v := 0) d_Lines_countWays_0 (by decide) ?_
  refine g_istore_n C0 [(3, .int 0), (0, .ref (ad 60)), (1, .ref (ad 20)), (2, .int b0)] d_Lines_countWays_1 rfl (by decide) rfl ?_
  refine g_sub [1, 2, 3, 0] (L' := [(0, .ref (ad 60)), (1, .ref (ad 20)), (2, .int b0), (3, .int 0)]) rfl ?_
  obtain ⟨t2, z2, hE⟩ := bd_some hE
  refine loopG (fun z_ : Int32 × Hp => K_Lines_countWays_L2 N b0 z_.1 z_.2) (fun z_ : Int32 × Hp => G p l e rm_Lines_countWays s m args below meth c K A WLines 9 0 0 _ 2 [(0, .ref (ad 60)), (1, .ref (ad 20)), (2, .int b0), (3, .int z_.1)] [] ad z_.2) (fun z_ : Hp => G p l e rm_Lines_countWays s m args below meth c K A WLines 9 0 0 _ 39 [(0, .ref (ad 60)), (1, .ref (ad 20)), (2, .int b0)] [] ad z_) (fun z_ x_ hz k1 k2 => w_Lines_countWays_L2 C0 hr N b0 z_.1 z_.2 hz k1 k2) _ _ _ z2 ?_
  try dsimp only
  refine g_iconst C0 (v := 0) d_Lines_countWays_39 (by decide) ?_
  refine g_aload_n C0 0 d_Lines_countWays_40 rfl rfl ?_
  refine g_geti C0 CK_4 4 (by decide) t_275 0 rfl rfl d_Lines_countWays_41 ?_
  refine g_bipush C0 (v := 8) d_Lines_countWays_44 (by decide) ?_
  refine g_imul C0 d_Lines_countWays_46 ?_
  refine g_aload_n C0 0 d_Lines_countWays_47 rfl rfl ?_
  refine g_getr C0 CK_4 1 (by decide) t_272 0 rfl rfl d_Lines_countWays_48 ?_
  refine g_alen C0 2 rfl rfl (v := 40) (by decide) d_Lines_countWays_51 ?_
  refine g_min C0 t_1007 ⟨Nat.le_of_ble_eq_true rfl, Nat.le_of_ble_eq_true rfl, Nat.zero_le _, Nat.zero_le _⟩ d_Lines_countWays_52 ?_
  refine g_max C0 t_1008 ⟨Nat.le_of_ble_eq_true rfl, Nat.le_of_ble_eq_true rfl, Nat.zero_le _, Nat.zero_le _⟩ d_Lines_countWays_55 ?_
  obtain ⟨v58, e58, hE⟩ := nm_some hE
  refine g_top e58 ?_
  refine g_istore_n C0 [(3, .int v58), (0, .ref (ad 60)), (1, .ref (ad 20)), (2, .int b0)] d_Lines_countWays_58 rfl (by decide) rfl ?_
  refine g_iload_n C0 0 d_Lines_countWays_59 rfl rfl ?_
  refine g_iconst C0 (v := 1) d_Lines_countWays_60 (by decide) ?_
  refine g_isub C0 d_Lines_countWays_61 ?_
  obtain ⟨v62, e62, hE⟩ := nm_some hE
  refine g_top e62 ?_
  refine g_istore C0 [(4, .int v62), (3, .int v58), (0, .ref (ad 60)), (1, .ref (ad 20)), (2, .int b0)] d_Lines_countWays_62 (by decide) rfl ?_
  refine g_sub [2, 3, 4, 0] (L' := [(0, .ref (ad 60)), (1, .ref (ad 20)), (2, .int b0), (4, .int v62)]) rfl ?_
  obtain ⟨t64, z64, hE⟩ := bd_some hE
  refine loopG (fun z_ : Int32 × Hp => K_Lines_countWays_L64 N b0 z_.1 z_.2) (fun z_ : Int32 × Hp => G p l e rm_Lines_countWays s m args below meth c K A WLines 9 0 0 _ 64 [(0, .ref (ad 60)), (1, .ref (ad 20)), (2, .int b0), (4, .int z_.1)] [] ad z_.2) (fun z_ : Hp => G p l e rm_Lines_countWays s m args below meth c K A WLines 9 0 0 _ 144 [] [] ad z_) (fun z_ x_ hz k1 k2 => w_Lines_countWays_L64 C0 hr N b0 z_.1 z_.2 hz k1 k2) _ _ _ z64 ?_
  try dsimp only
  obtain rfl := Option.some.inj hE
  exact g_vret C0 hr d_Lines_countWays_144
theorem m_Lines_countWays (l : Launch) (K : KT) (ad : Nat → Nat) (h : Hp) (N : Nat) (b0 : Int32) {res : Hp} (hE : K_Lines_countWays N b0 h = some res) : ConV l y_Lines_countWays prog_6_method_6_code 9 (Option.none : Option Jvm.ClassFile.FieldType) rm_Lines_countWays K WLines ad h [.ref (ad 60), .ref (ad 20), .int b0] res := fun sz =>
  con_start [(0, .ref (ad 60)), (1, .ref (ad 20)), (2, .int b0)] (by decide +kernel) rfl (Nat.le_of_ble_eq_true rfl) (fun p e s m args below meth c C0 hr hnm hsz => w_Lines_countWays C0 hr N b0 h hE)
abbrev y_Lines_firstPair : MethodName := ⟨"CanoeSides$Lines", "firstPair", "(ILCanoeSides$Crew;I)I"⟩
abbrev rm_Lines_firstPair : Room := { frames := 3, cells := 0, slots := 0, locals := 73 }
theorem cd_Lines_firstPair : cwd y_Lines_firstPair 3 := by decide +kernel
theorem d_Lines_firstPair_0 : decode prog_6_method_11_code 0 = .ok (.iconst 0, 1) := by decide +kernel
theorem d_Lines_firstPair_1 : decode prog_6_method_11_code 1 = .ok (.istore 4, 2) := by decide +kernel
theorem d_Lines_firstPair_3 : decode prog_6_method_11_code 3 = .ok (.iload 4, 2) := by decide +kernel
theorem d_Lines_firstPair_5 : decode prog_6_method_11_code 5 = .ok (.bipush 16, 2) := by decide +kernel
theorem d_Lines_firstPair_7 : decode prog_6_method_11_code 7 = .ok (.if_icmp .ge 27, 3) := by decide +kernel
theorem d_Lines_firstPair_10 : decode prog_6_method_11_code 10 = .ok (.aload_n 0, 1) := by decide +kernel
theorem d_Lines_firstPair_11 : decode prog_6_method_11_code 11 = .ok (.iload_n 1, 1) := by decide +kernel
theorem d_Lines_firstPair_12 : decode prog_6_method_11_code 12 = .ok (.aload_n 2, 1) := by decide +kernel
theorem d_Lines_firstPair_13 : decode prog_6_method_11_code 13 = .ok (.iload_n 3, 1) := by decide +kernel
theorem d_Lines_firstPair_14 : decode prog_6_method_11_code 14 = .ok (.iload 4, 2) := by decide +kernel
theorem d_Lines_firstPair_16 : decode prog_6_method_11_code 16 = .ok (.invokevirtual 31, 3) := by decide +kernel
theorem d_Lines_firstPair_19 : decode prog_6_method_11_code 19 = .ok (.invokevirtual 53, 3) := by decide +kernel
theorem d_Lines_firstPair_22 : decode prog_6_method_11_code 22 = .ok (.ifCond .le 6, 3) := by decide +kernel
theorem d_Lines_firstPair_25 : decode prog_6_method_11_code 25 = .ok (.iload 4, 2) := by decide +kernel
theorem d_Lines_firstPair_27 : decode prog_6_method_11_code 27 = .ok (.ireturn, 1) := by decide +kernel
theorem d_Lines_firstPair_28 : decode prog_6_method_11_code 28 = .ok (.iinc 4 1, 3) := by decide +kernel
theorem d_Lines_firstPair_31 : decode prog_6_method_11_code 31 = .ok (.goto (-28), 3) := by decide +kernel
theorem d_Lines_firstPair_34 : decode prog_6_method_11_code 34 = .ok (.iconst (-1), 1) := by decide +kernel
theorem d_Lines_firstPair_35 : decode prog_6_method_11_code 35 = .ok (.ireturn, 1) := by decide +kernel
theorem w_Lines_firstPair_L3 {p : Program} {l : Launch} {e : Env} {s : State} {m : MethodId} {args : Array Value} {below : List Frame} {meth : Method} {c : Code} {K : KT} {A : Nat → Prop} {Q : State → Prop} (C0 : Cx p s m args meth c prog_6_method_11_code "CanoeSides$Lines" 5 K A) (hr : meth.sig.returnType = (Option.some Jvm.ClassFile.FieldType.int)) {ad : Nat → Nat} (N : Nat) (x1 : Int32) (x3 : Int32) (x4 : Int32) (h : Hp) {x_ : (Int32) ⊕ (Int32) ⊕ (Unit)} (hE : K_Lines_firstPair_L3 N x1 x3 x4 h = some x_) (hk1 : ∀ z_, x_ = .inl z_ → G p l e rm_Lines_firstPair s m args below meth c K A WLines 5 0 0 Q 3 [(0, .ref (ad 60)), (1, .int x1), (2, .ref (ad 20)), (3, .int x3), (4, .int z_)] [] ad h) (hk2 : ∀ r_, x_ = .inr (.inl r_) → Q = (QI s args below K A WLines 0 0 ad r_ h)) (hk3 : ∀ z_, x_ = .inr (.inr z_) → G p l e rm_Lines_firstPair s m args below meth c K A WLines 5 0 0 Q 34 [] [] ad h) : G p l e rm_Lines_firstPair s m args below meth c K A WLines 5 0 0 Q 3 [(0, .ref (ad 60)), (1, .int x1), (2, .ref (ad 20)), (3, .int x3), (4, .int x4)] [] ad h := by
  unfold K_Lines_firstPair_L3 at hE
  refine g_iload C0 4 d_Lines_firstPair_3 rfl ?_
  refine g_bipush C0 (v := 16) d_Lines_firstPair_5 (by decide) ?_
  have hB := ite_some hE
  refine g_icmp_ge C0 (tgt := 34) d_Lines_firstPair_7 (by decide) (fun c_ => ?_) (fun c_ => ?_)
  · replace hE := hB.1 c_
    refine g_sub [] (L' := []) rfl ?_
    exact hk3 _ (Option.some.inj hE).symm
  · replace hE := hB.2 c_
    refine g_aload_n C0 0 d_Lines_firstPair_10 rfl rfl ?_
    refine g_iload_n C0 1 d_Lines_firstPair_11 rfl rfl ?_
    refine g_aload_n C0 2 d_Lines_firstPair_12 rfl rfl ?_
    refine g_iload_n C0 3 d_Lines_firstPair_13 rfl rfl ?_
    refine g_iload C0 4 d_Lines_firstPair_14 rfl ?_
    obtain ⟨v16, z16, hE⟩ := bd_some hE
    refine g_calliP C0 nd_Lines [20, 21, 22, 15, 16, 17] rfl (sb_Crew_Lines) (runV C0 (m_Crew_after l K ad h x3 x4 z16) 2 rfl ⟨t_1015, t_773, t_774, t_89, t_775⟩ cd_Crew_after (by decide) 5 rfl rfl (sb_Crew_Lines) nd_Crew rfl rfl (Nat.le_of_ble_eq_true rfl) d_Lines_firstPair_16) ?_
    obtain ⟨v19, z19, hE⟩ := bd_some hE
    refine g_calliP C0 nd_Lines [60, 61, 62, 63, 64, 20, 21, 22, 15, 16, 17] rfl (sbW_self WLines) (runV C0 (m_Lines_waysBehind l K ad h x1 v16 z19) 2 rfl ⟨t_1016, t_1018, t_39, t_92, t_1019⟩ cd_Lines_waysBehind (by decide) 0 rfl rfl (sbW_self WLines) nd_Lines rfl rfl (Nat.le_of_ble_eq_true rfl) d_Lines_firstPair_19) ?_
    have hB := ite_some hE
    refine g_if_le C0 (tgt := 28) d_Lines_firstPair_22 (by decide) (fun c_ => ?_) (fun c_ => ?_)
    · replace hE := hB.1 c_
      obtain ⟨v28, e28, hE⟩ := nm_some hE
      refine g_iinc C0 4 [(4, .int v28), (0, .ref (ad 60)), (1, .int x1), (2, .ref (ad 20)), (3, .int x3)] d_Lines_firstPair_28 rfl (by rw [e28]; rfl) (by decide) rfl ?_
      refine g_goto C0 (tgt := 3) d_Lines_firstPair_31 (by decide) ?_
      refine g_sub [1, 2, 3, 4, 0] (L' := [(0, .ref (ad 60)), (1, .int x1), (2, .ref (ad 20)), (3, .int x3), (4, .int v28)]) rfl ?_
      exact hk1 _ (Option.some.inj hE).symm
    · replace hE := hB.2 c_
      refine g_iload C0 4 d_Lines_firstPair_25 rfl ?_
      have hq := hk2 _ (Option.some.inj hE).symm
      rw [hq]
      exact g_iret C0 hr d_Lines_firstPair_27
theorem w_Lines_firstPair {p : Program} {l : Launch} {e : Env} {s : State} {m : MethodId} {args : Array Value} {below : List Frame} {meth : Method} {c : Code} {K : KT} {A : Nat → Prop} (C0 : Cx p s m args meth c prog_6_method_11_code "CanoeSides$Lines" 5 K A) (hr : meth.sig.returnType = (Option.some Jvm.ClassFile.FieldType.int)) {ad : Nat → Nat} (N : Nat) (a0 : Int32) (c0 : Int32) (h : Hp) {res : Int32} (hE : K_Lines_firstPair N a0 c0 h = some res) : G p l e rm_Lines_firstPair s m args below meth c K A WLines 5 0 0 (QI s args below K A WLines 0 0 ad res h) 0 [(0, .ref (ad 60)), (1, .int a0), (2, .ref (ad 20)), (3, .int c0)] [] ad h := by
  unfold K_Lines_firstPair at hE
  refine g_iconst C0 (v := 0) d_Lines_firstPair_0 (by decide) ?_
  refine g_istore C0 [(4, .int 0), (0, .ref (ad 60)), (1, .int a0), (2, .ref (ad 20)), (3, .int c0)] d_Lines_firstPair_1 (by decide) rfl ?_
  refine g_sub [1, 2, 3, 4, 0] (L' := [(0, .ref (ad 60)), (1, .int a0), (2, .ref (ad 20)), (3, .int c0), (4, .int 0)]) rfl ?_
  obtain ⟨t3, z3, hE⟩ := bd_some hE
  refine loopG (fun z_ : Int32 => K_Lines_firstPair_L3 N a0 c0 z_ h) (fun z_ : Int32 => G p l e rm_Lines_firstPair s m args below meth c K A WLines 5 0 0 _ 3 [(0, .ref (ad 60)), (1, .int a0), (2, .ref (ad 20)), (3, .int c0), (4, .int z_)] [] ad h) (fun z_ : (Int32) ⊕ (Unit) => (∀ r_, z_ = .inl r_ → _ = (QI s args below K A WLines 0 0 ad r_ h)) ∧ (∀ y_, z_ = .inr y_ → G p l e rm_Lines_firstPair s m args below meth c K A WLines 5 0 0 _ 34 [] [] ad h)) (fun z_ x_ hz k1 k2 => w_Lines_firstPair_L3 C0 hr N a0 c0 z_ h hz k1 (fun r_ hr_ => (k2 _ hr_).1 _ rfl) (fun y_ hy_ => (k2 _ hy_).2 _ rfl)) _ _ _ z3 ?_
  refine ⟨fun r_ e_ => ?_, fun t3x e_ => ?_⟩
  · subst e_
    replace hE := el_inl hE
    exact Option.some.inj hE ▸ rfl
  · subst e_
    replace hE := el_inr hE
    try dsimp only
    refine g_iconst C0 (v := (-1)) d_Lines_firstPair_34 (by decide) ?_
    obtain rfl := Option.some.inj hE
    exact g_iret C0 hr d_Lines_firstPair_35
theorem m_Lines_firstPair (l : Launch) (K : KT) (ad : Nat → Nat) (h : Hp) (N : Nat) (a0 : Int32) (c0 : Int32) {res : Int32} (hE : K_Lines_firstPair N a0 c0 h = some res) : ConI l y_Lines_firstPair prog_6_method_11_code 5 (Option.some Jvm.ClassFile.FieldType.int) rm_Lines_firstPair K WLines ad h [.ref (ad 60), .int a0, .ref (ad 20), .int c0] res h := fun sz =>
  con_start [(0, .ref (ad 60)), (1, .int a0), (2, .ref (ad 20)), (3, .int c0)] (by decide +kernel) rfl (Nat.le_of_ble_eq_true rfl) (fun p e s m args below meth c C0 hr hnm hsz => w_Lines_firstPair C0 hr N a0 c0 h hE)
abbrev y_Lines_firstPairAt : MethodName := ⟨"CanoeSides$Lines", "firstPairAt", "(ILCanoeSides$Crew;I)I"⟩
abbrev rm_Lines_firstPairAt : Room := { frames := 4, cells := 0, slots := 0, locals := 97 }
theorem cd_Lines_firstPairAt : cwd y_Lines_firstPairAt 3 := by decide +kernel
theorem d_Lines_firstPairAt_0 : decode prog_6_method_10_code 0 = .ok (.iload_n 1, 1) := by decide +kernel
theorem d_Lines_firstPairAt_1 : decode prog_6_method_10_code 1 = .ok (.ifCond .lt 20, 3) := by decide +kernel
theorem d_Lines_firstPairAt_4 : decode prog_6_method_10_code 4 = .ok (.iload_n 1, 1) := by decide +kernel
theorem d_Lines_firstPairAt_5 : decode prog_6_method_10_code 5 = .ok (.aload_n 0, 1) := by decide +kernel
theorem d_Lines_firstPairAt_6 : decode prog_6_method_10_code 6 = .ok (.getfield 24, 3) := by decide +kernel
theorem d_Lines_firstPairAt_9 : decode prog_6_method_10_code 9 = .ok (.if_icmp .ge 12, 3) := by decide +kernel
theorem d_Lines_firstPairAt_12 : decode prog_6_method_10_code 12 = .ok (.aload_n 0, 1) := by decide +kernel
theorem d_Lines_firstPairAt_13 : decode prog_6_method_10_code 13 = .ok (.iconst 0, 1) := by decide +kernel
theorem d_Lines_firstPairAt_14 : decode prog_6_method_10_code 14 = .ok (.iload_n 3, 1) := by decide +kernel
theorem d_Lines_firstPairAt_15 : decode prog_6_method_10_code 15 = .ok (.invokevirtual 68, 3) := by decide +kernel
theorem d_Lines_firstPairAt_18 : decode prog_6_method_10_code 18 = .ok (.ifCond .ne 5, 3) := by decide +kernel
theorem d_Lines_firstPairAt_21 : decode prog_6_method_10_code 21 = .ok (.iconst (-1), 1) := by decide +kernel
theorem d_Lines_firstPairAt_22 : decode prog_6_method_10_code 22 = .ok (.ireturn, 1) := by decide +kernel
theorem d_Lines_firstPairAt_23 : decode prog_6_method_10_code 23 = .ok (.iload_n 3, 1) := by decide +kernel
theorem d_Lines_firstPairAt_24 : decode prog_6_method_10_code 24 = .ok (.istore 4, 2) := by decide +kernel
theorem d_Lines_firstPairAt_26 : decode prog_6_method_10_code 26 = .ok (.iconst 0, 1) := by decide +kernel
theorem d_Lines_firstPairAt_27 : decode prog_6_method_10_code 27 = .ok (.istore 5, 2) := by decide +kernel
theorem d_Lines_firstPairAt_29 : decode prog_6_method_10_code 29 = .ok (.iload 5, 2) := by decide +kernel
theorem d_Lines_firstPairAt_31 : decode prog_6_method_10_code 31 = .ok (.iload_n 1, 1) := by decide +kernel
theorem d_Lines_firstPairAt_32 : decode prog_6_method_10_code 32 = .ok (.if_icmp .ge 26, 3) := by decide +kernel
theorem d_Lines_firstPairAt_35 : decode prog_6_method_10_code 35 = .ok (.aload_n 2, 1) := by decide +kernel
theorem d_Lines_firstPairAt_36 : decode prog_6_method_10_code 36 = .ok (.iload 4, 2) := by decide +kernel
theorem d_Lines_firstPairAt_38 : decode prog_6_method_10_code 38 = .ok (.aload_n 0, 1) := by decide +kernel
theorem d_Lines_firstPairAt_39 : decode prog_6_method_10_code 39 = .ok (.iload 5, 2) := by decide +kernel
theorem d_Lines_firstPairAt_41 : decode prog_6_method_10_code 41 = .ok (.aload_n 2, 1) := by decide +kernel
theorem d_Lines_firstPairAt_42 : decode prog_6_method_10_code 42 = .ok (.iload 4, 2) := by decide +kernel
theorem d_Lines_firstPairAt_44 : decode prog_6_method_10_code 44 = .ok (.invokevirtual 71, 3) := by decide +kernel
theorem d_Lines_firstPairAt_47 : decode prog_6_method_10_code 47 = .ok (.invokevirtual 31, 3) := by decide +kernel
theorem d_Lines_firstPairAt_50 : decode prog_6_method_10_code 50 = .ok (.istore 4, 2) := by decide +kernel
theorem d_Lines_firstPairAt_52 : decode prog_6_method_10_code 52 = .ok (.iinc 5 1, 3) := by decide +kernel
theorem d_Lines_firstPairAt_55 : decode prog_6_method_10_code 55 = .ok (.goto (-26), 3) := by decide +kernel
theorem d_Lines_firstPairAt_58 : decode prog_6_method_10_code 58 = .ok (.aload_n 0, 1) := by decide +kernel
theorem d_Lines_firstPairAt_59 : decode prog_6_method_10_code 59 = .ok (.iload_n 1, 1) := by decide +kernel
theorem d_Lines_firstPairAt_60 : decode prog_6_method_10_code 60 = .ok (.aload_n 2, 1) := by decide +kernel
theorem d_Lines_firstPairAt_61 : decode prog_6_method_10_code 61 = .ok (.iload 4, 2) := by decide +kernel
theorem d_Lines_firstPairAt_63 : decode prog_6_method_10_code 63 = .ok (.invokevirtual 71, 3) := by decide +kernel
theorem d_Lines_firstPairAt_66 : decode prog_6_method_10_code 66 = .ok (.ireturn, 1) := by decide +kernel
theorem w_Lines_firstPairAt_L29 {p : Program} {l : Launch} {e : Env} {s : State} {m : MethodId} {args : Array Value} {below : List Frame} {meth : Method} {c : Code} {K : KT} {A : Nat → Prop} {Q : State → Prop} (C0 : Cx p s m args meth c prog_6_method_10_code "CanoeSides$Lines" 6 K A) (hr : meth.sig.returnType = (Option.some Jvm.ClassFile.FieldType.int)) {ad : Nat → Nat} (N : Nat) (x1 : Int32) (x4 : Int32) (x5 : Int32) (h : Hp) {x_ : (Int32 × Int32) ⊕ (Int32)} (hE : K_Lines_firstPairAt_L29 N x1 x4 x5 h = some x_) (hk1 : ∀ z_, x_ = .inl z_ → G p l e rm_Lines_firstPairAt s m args below meth c K A WLines 6 0 0 Q 29 [(0, .ref (ad 60)), (1, .int x1), (2, .ref (ad 20)), (4, .int z_.1), (5, .int z_.2)] [] ad h) (hk3 : ∀ z_, x_ = .inr z_ → G p l e rm_Lines_firstPairAt s m args below meth c K A WLines 6 0 0 Q 58 [(0, .ref (ad 60)), (1, .int x1), (2, .ref (ad 20)), (4, .int z_)] [] ad h) : G p l e rm_Lines_firstPairAt s m args below meth c K A WLines 6 0 0 Q 29 [(0, .ref (ad 60)), (1, .int x1), (2, .ref (ad 20)), (4, .int x4), (5, .int x5)] [] ad h := by
  unfold K_Lines_firstPairAt_L29 at hE
  refine g_iload C0 4 d_Lines_firstPairAt_29 rfl ?_
  refine g_iload_n C0 1 d_Lines_firstPairAt_31 rfl rfl ?_
  have hB := ite_some hE
  refine g_icmp_ge C0 (tgt := 58) d_Lines_firstPairAt_32 (by decide) (fun c_ => ?_) (fun c_ => ?_)
  · replace hE := hB.1 c_
    refine g_sub [0, 1, 2, 3] (L' := [(0, .ref (ad 60)), (1, .int x1), (2, .ref (ad 20)), (4, .int x4)]) rfl ?_
    exact hk3 _ (Option.some.inj hE).symm
  · replace hE := hB.2 c_
    refine g_aload_n C0 2 d_Lines_firstPairAt_35 rfl rfl ?_
    refine g_iload C0 3 d_Lines_firstPairAt_36 rfl ?_
    refine g_aload_n C0 0 d_Lines_firstPairAt_38 rfl rfl ?_
    refine g_iload C0 4 d_Lines_firstPairAt_39 rfl ?_
    refine g_aload_n C0 2 d_Lines_firstPairAt_41 rfl rfl ?_
    refine g_iload C0 3 d_Lines_firstPairAt_42 rfl ?_
    obtain ⟨v44, z44, hE⟩ := bd_some hE
    refine g_calliP C0 nd_Lines [60, 61, 62, 63, 64, 20, 21, 22, 15, 16, 17] rfl (sbW_self WLines) (runV C0 (m_Lines_firstPair l K ad h N x5 x4 z44) 3 rfl ⟨t_1030, t_1032, t_40, t_92, t_1033⟩ cd_Lines_firstPair (by decide) 0 rfl rfl (sbW_self WLines) nd_Lines rfl rfl (Nat.le_of_ble_eq_true rfl) d_Lines_firstPairAt_44) ?_
    obtain ⟨v47, z47, hE⟩ := bd_some hE
    refine g_calliP C0 nd_Lines [20, 21, 22, 15, 16, 17] rfl (sb_Crew_Lines) (runV C0 (m_Crew_after l K ad h x4 v44 z47) 2 rfl ⟨t_1015, t_773, t_774, t_89, t_775⟩ cd_Crew_after (by decide) 5 rfl rfl (sb_Crew_Lines) nd_Crew rfl rfl (Nat.le_of_ble_eq_true rfl) d_Lines_firstPairAt_47) ?_
    refine g_istore C0 [(4, .int v47), (0, .ref (ad 60)), (1, .int x1), (2, .ref (ad 20)), (5, .int x5)] d_Lines_firstPairAt_50 (by decide) rfl ?_
    obtain ⟨v52, e52, hE⟩ := nm_some hE
    refine g_iinc C0 4 [(5, .int v52), (4, .int v47), (0, .ref (ad 60)), (1, .int x1), (2, .ref (ad 20))] d_Lines_firstPairAt_52 rfl (by rw [e52]; rfl) (by decide) rfl ?_
    refine g_goto C0 (tgt := 29) d_Lines_firstPairAt_55 (by decide) ?_
    refine g_sub [2, 3, 4, 1, 0] (L' := [(0, .ref (ad 60)), (1, .int x1), (2, .ref (ad 20)), (4, .int v47), (5, .int v52)]) rfl ?_
    exact hk1 _ (Option.some.inj hE).symm
theorem w_Lines_firstPairAt {p : Program} {l : Launch} {e : Env} {s : State} {m : MethodId} {args : Array Value} {below : List Frame} {meth : Method} {c : Code} {K : KT} {A : Nat → Prop} (C0 : Cx p s m args meth c prog_6_method_10_code "CanoeSides$Lines" 6 K A) (hr : meth.sig.returnType = (Option.some Jvm.ClassFile.FieldType.int)) {ad : Nat → Nat} (N : Nat) (a0 : Int32) (c0 : Int32) (h : Hp) {res : Int32} (hE : K_Lines_firstPairAt N a0 c0 h = some res) : G p l e rm_Lines_firstPairAt s m args below meth c K A WLines 6 0 0 (QI s args below K A WLines 0 0 ad res h) 0 [(0, .ref (ad 60)), (1, .int a0), (2, .ref (ad 20)), (3, .int c0)] [] ad h := by
  unfold K_Lines_firstPairAt at hE
  refine g_iload_n C0 1 d_Lines_firstPairAt_0 rfl rfl ?_
  have hB := ite_some hE
  refine g_if_lt C0 (tgt := 21) d_Lines_firstPairAt_1 (by decide) (fun c_ => ?_) (fun c_ => ?_)
  · replace hE := hB.1 c_
    refine g_iconst C0 (v := (-1)) d_Lines_firstPairAt_21 (by decide) ?_
    obtain rfl := Option.some.inj hE
    exact g_iret C0 hr d_Lines_firstPairAt_22
  · replace hE := hB.2 c_
    refine g_iload_n C0 1 d_Lines_firstPairAt_4 rfl rfl ?_
    refine g_aload_n C0 0 d_Lines_firstPairAt_5 rfl rfl ?_
    refine g_geti C0 CK_4 4 (by decide) t_275 0 rfl rfl d_Lines_firstPairAt_6 ?_
    have hB := ite_some hE
    refine g_icmp_ge C0 (tgt := 21) d_Lines_firstPairAt_9 (by decide) (fun c_ => ?_) (fun c_ => ?_)
    · replace hE := hB.1 c_
      refine g_iconst C0 (v := (-1)) d_Lines_firstPairAt_21 (by decide) ?_
      obtain rfl := Option.some.inj hE
      exact g_iret C0 hr d_Lines_firstPairAt_22
    · replace hE := hB.2 c_
      refine g_aload_n C0 0 d_Lines_firstPairAt_12 rfl rfl ?_
      refine g_iconst C0 (v := 0) d_Lines_firstPairAt_13 (by decide) ?_
      refine g_iload_n C0 3 d_Lines_firstPairAt_14 rfl rfl ?_
      obtain ⟨v15, z15, hE⟩ := bd_some hE
      refine g_calliP C0 nd_Lines [60, 61, 62, 63, 64, 20, 21, 22, 15, 16, 17] rfl (sbW_self WLines) (runV C0 (m_Lines_waysFrom l K ad h 0 c0 z15) 2 rfl ⟨t_1020, t_1021, t_1022, t_92, t_1023⟩ cd_Lines_waysFrom (by decide) 0 rfl rfl (sbW_self WLines) nd_Lines rfl rfl (Nat.le_of_ble_eq_true rfl) d_Lines_firstPairAt_15) ?_
      have hB := ite_some hE
      refine g_if_ne C0 (tgt := 23) d_Lines_firstPairAt_18 (by decide) (fun c_ => ?_) (fun c_ => ?_)
      · replace hE := hB.2 c_
        refine g_iload_n C0 3 d_Lines_firstPairAt_23 rfl rfl ?_
        refine g_istore C0 [(4, .int c0), (0, .ref (ad 60)), (1, .int a0), (2, .ref (ad 20)), (3, .int c0)] d_Lines_firstPairAt_24 (by decide) rfl ?_
        refine g_iconst C0 (v := 0) d_Lines_firstPairAt_26 (by decide) ?_
        refine g_istore C0 [(5, .int 0), (4, .int c0), (0, .ref (ad 60)), (1, .int a0), (2, .ref (ad 20)), (3, .int c0)] d_Lines_firstPairAt_27 (by decide) rfl ?_
        refine g_sub [2, 3, 4, 1, 0] (L' := [(0, .ref (ad 60)), (1, .int a0), (2, .ref (ad 20)), (4, .int c0), (5, .int 0)]) rfl ?_
        obtain ⟨t29, z29, hE⟩ := bd_some hE
        refine loopG (fun z_ : Int32 × Int32 => K_Lines_firstPairAt_L29 N a0 z_.1 z_.2 h) (fun z_ : Int32 × Int32 => G p l e rm_Lines_firstPairAt s m args below meth c K A WLines 6 0 0 _ 29 [(0, .ref (ad 60)), (1, .int a0), (2, .ref (ad 20)), (4, .int z_.1), (5, .int z_.2)] [] ad h) (fun z_ : Int32 => G p l e rm_Lines_firstPairAt s m args below meth c K A WLines 6 0 0 _ 58 [(0, .ref (ad 60)), (1, .int a0), (2, .ref (ad 20)), (4, .int z_)] [] ad h) (fun z_ x_ hz k1 k2 => w_Lines_firstPairAt_L29 C0 hr N a0 z_.1 z_.2 h hz k1 k2) _ _ _ z29 ?_
        try dsimp only
        refine g_aload_n C0 0 d_Lines_firstPairAt_58 rfl rfl ?_
        refine g_iload_n C0 1 d_Lines_firstPairAt_59 rfl rfl ?_
        refine g_aload_n C0 2 d_Lines_firstPairAt_60 rfl rfl ?_
        refine g_iload C0 3 d_Lines_firstPairAt_61 rfl ?_
        obtain ⟨v63, z63, hE⟩ := bd_some hE
        refine g_calliP C0 nd_Lines [60, 61, 62, 63, 64, 20, 21, 22, 15, 16, 17] rfl (sbW_self WLines) (runV C0 (m_Lines_firstPair l K ad h N a0 t29 z63) 3 rfl ⟨t_1030, t_1032, t_40, t_92, t_1033⟩ cd_Lines_firstPair (by decide) 0 rfl rfl (sbW_self WLines) nd_Lines rfl rfl (Nat.le_of_ble_eq_true rfl) d_Lines_firstPairAt_63) ?_
        obtain rfl := Option.some.inj hE
        exact g_iret C0 hr d_Lines_firstPairAt_66
      · replace hE := hB.1 c_
        refine g_iconst C0 (v := (-1)) d_Lines_firstPairAt_21 (by decide) ?_
        obtain rfl := Option.some.inj hE
        exact g_iret C0 hr d_Lines_firstPairAt_22
theorem m_Lines_firstPairAt (l : Launch) (K : KT) (ad : Nat → Nat) (h : Hp) (N : Nat) (a0 : Int32) (c0 : Int32) {res : Int32} (hE : K_Lines_firstPairAt N a0 c0 h = some res) : ConI l y_Lines_firstPairAt prog_6_method_10_code 6 (Option.some Jvm.ClassFile.FieldType.int) rm_Lines_firstPairAt K WLines ad h [.ref (ad 60), .int a0, .ref (ad 20), .int c0] res h := fun sz =>
  con_start [(0, .ref (ad 60)), (1, .int a0), (2, .ref (ad 20)), (3, .int c0)] (by decide +kernel) rfl (Nat.le_of_ble_eq_true rfl) (fun p e s m args below meth c C0 hr hnm hsz => w_Lines_firstPairAt C0 hr N a0 c0 h hE)
abbrev y_Lines_heldAlways : MethodName := ⟨"CanoeSides$Lines", "heldAlways", "(ILCanoeSides$Crew;I)I"⟩
abbrev rm_Lines_heldAlways : Room := { frames := 3, cells := 0, slots := 0, locals := 73 }
theorem cd_Lines_heldAlways : cwd y_Lines_heldAlways 3 := by decide +kernel
theorem d_Lines_heldAlways_0 : decode prog_6_method_12_code 0 = .ok (.aload_n 0, 1) := by decide +kernel
theorem d_Lines_heldAlways_1 : decode prog_6_method_12_code 1 = .ok (.iconst 0, 1) := by decide +kernel
theorem d_Lines_heldAlways_2 : decode prog_6_method_12_code 2 = .ok (.iload_n 3, 1) := by decide +kernel
theorem d_Lines_heldAlways_3 : decode prog_6_method_12_code 3 = .ok (.invokevirtual 68, 3) := by decide +kernel
theorem d_Lines_heldAlways_6 : decode prog_6_method_12_code 6 = .ok (.ifCond .ne 5, 3) := by decide +kernel
theorem d_Lines_heldAlways_9 : decode prog_6_method_12_code 9 = .ok (.iconst 0, 1) := by decide +kernel
theorem d_Lines_heldAlways_10 : decode prog_6_method_12_code 10 = .ok (.ireturn, 1) := by decide +kernel
theorem d_Lines_heldAlways_11 : decode prog_6_method_12_code 11 = .ok (.iconst 1, 1) := by decide +kernel
theorem d_Lines_heldAlways_12 : decode prog_6_method_12_code 12 = .ok (.aload_n 0, 1) := by decide +kernel
theorem d_Lines_heldAlways_13 : decode prog_6_method_12_code 13 = .ok (.getfield 24, 3) := by decide +kernel
theorem d_Lines_heldAlways_16 : decode prog_6_method_12_code 16 = .ok (.ishl, 1) := by decide +kernel
theorem d_Lines_heldAlways_17 : decode prog_6_method_12_code 17 = .ok (.iconst 1, 1) := by decide +kernel
theorem d_Lines_heldAlways_18 : decode prog_6_method_12_code 18 = .ok (.isub, 1) := by decide +kernel
theorem d_Lines_heldAlways_19 : decode prog_6_method_12_code 19 = .ok (.istore 4, 2) := by decide +kernel
theorem d_Lines_heldAlways_21 : decode prog_6_method_12_code 21 = .ok (.iconst 1, 1) := by decide +kernel
theorem d_Lines_heldAlways_22 : decode prog_6_method_12_code 22 = .ok (.iload_n 3, 1) := by decide +kernel
theorem d_Lines_heldAlways_23 : decode prog_6_method_12_code 23 = .ok (.invokestatic 65, 3) := by decide +kernel
theorem d_Lines_heldAlways_26 : decode prog_6_method_12_code 26 = .ok (.ishl, 1) := by decide +kernel
theorem d_Lines_heldAlways_27 : decode prog_6_method_12_code 27 = .ok (.istore 5, 2) := by decide +kernel
theorem d_Lines_heldAlways_29 : decode prog_6_method_12_code 29 = .ok (.iconst 0, 1) := by decide +kernel
theorem d_Lines_heldAlways_30 : decode prog_6_method_12_code 30 = .ok (.istore 6, 2) := by decide +kernel
theorem d_Lines_heldAlways_32 : decode prog_6_method_12_code 32 = .ok (.iload 6, 2) := by decide +kernel
theorem d_Lines_heldAlways_34 : decode prog_6_method_12_code 34 = .ok (.aload_n 0, 1) := by decide +kernel
theorem d_Lines_heldAlways_35 : decode prog_6_method_12_code 35 = .ok (.getfield 24, 3) := by decide +kernel
theorem d_Lines_heldAlways_38 : decode prog_6_method_12_code 38 = .ok (.if_icmp .ge 132, 3) := by decide +kernel
theorem d_Lines_heldAlways_41 : decode prog_6_method_12_code 41 = .ok (.iconst 0, 1) := by decide +kernel
theorem d_Lines_heldAlways_42 : decode prog_6_method_12_code 42 = .ok (.istore 7, 2) := by decide +kernel
theorem d_Lines_heldAlways_44 : decode prog_6_method_12_code 44 = .ok (.iconst 0, 1) := by decide +kernel
theorem d_Lines_heldAlways_45 : decode prog_6_method_12_code 45 = .ok (.istore 8, 2) := by decide +kernel
theorem d_Lines_heldAlways_47 : decode prog_6_method_12_code 47 = .ok (.iload 8, 2) := by decide +kernel
theorem d_Lines_heldAlways_49 : decode prog_6_method_12_code 49 = .ok (.sipush 128, 3) := by decide +kernel
theorem d_Lines_heldAlways_52 : decode prog_6_method_12_code 52 = .ok (.if_icmp .ge 108, 3) := by decide +kernel
theorem d_Lines_heldAlways_55 : decode prog_6_method_12_code 55 = .ok (.iload 8, 2) := by decide +kernel
theorem d_Lines_heldAlways_57 : decode prog_6_method_12_code 57 = .ok (.bipush 16, 2) := by decide +kernel
theorem d_Lines_heldAlways_59 : decode prog_6_method_12_code 59 = .ok (.irem, 1) := by decide +kernel
theorem d_Lines_heldAlways_60 : decode prog_6_method_12_code 60 = .ok (.istore 9, 2) := by decide +kernel
theorem d_Lines_heldAlways_62 : decode prog_6_method_12_code 62 = .ok (.aload_n 2, 1) := by decide +kernel
theorem d_Lines_heldAlways_63 : decode prog_6_method_12_code 63 = .ok (.aload_n 0, 1) := by decide +kernel
theorem d_Lines_heldAlways_64 : decode prog_6_method_12_code 64 = .ok (.iload 6, 2) := by decide +kernel
theorem d_Lines_heldAlways_66 : decode prog_6_method_12_code 66 = .ok (.iload 8, 2) := by decide +kernel
theorem d_Lines_heldAlways_68 : decode prog_6_method_12_code 68 = .ok (.bipush 16, 2) := by decide +kernel
theorem d_Lines_heldAlways_70 : decode prog_6_method_12_code 70 = .ok (.idiv, 1) := by decide +kernel
theorem d_Lines_heldAlways_71 : decode prog_6_method_12_code 71 = .ok (.aload_n 2, 1) := by decide +kernel
theorem d_Lines_heldAlways_72 : decode prog_6_method_12_code 72 = .ok (.iload_n 3, 1) := by decide +kernel
theorem d_Lines_heldAlways_73 : decode prog_6_method_12_code 73 = .ok (.invokevirtual 49, 3) := by decide +kernel
theorem d_Lines_heldAlways_76 : decode prog_6_method_12_code 76 = .ok (.iload 9, 2) := by decide +kernel
theorem d_Lines_heldAlways_78 : decode prog_6_method_12_code 78 = .ok (.invokevirtual 31, 3) := by decide +kernel
theorem d_Lines_heldAlways_81 : decode prog_6_method_12_code 81 = .ok (.istore 10, 2) := by decide +kernel
theorem d_Lines_heldAlways_83 : decode prog_6_method_12_code 83 = .ok (.iload 5, 2) := by decide +kernel
theorem d_Lines_heldAlways_85 : decode prog_6_method_12_code 85 = .ok (.iload 8, 2) := by decide +kernel
theorem d_Lines_heldAlways_87 : decode prog_6_method_12_code 87 = .ok (.bipush 16, 2) := by decide +kernel
theorem d_Lines_heldAlways_89 : decode prog_6_method_12_code 89 = .ok (.idiv, 1) := by decide +kernel
theorem d_Lines_heldAlways_90 : decode prog_6_method_12_code 90 = .ok (.ishr, 1) := by decide +kernel
theorem d_Lines_heldAlways_91 : decode prog_6_method_12_code 91 = .ok (.iconst 1, 1) := by decide +kernel
theorem d_Lines_heldAlways_92 : decode prog_6_method_12_code 92 = .ok (.iand, 1) := by decide +kernel
theorem d_Lines_heldAlways_93 : decode prog_6_method_12_code 93 = .ok (.ifCond .eq 61, 3) := by decide +kernel
theorem d_Lines_heldAlways_96 : decode prog_6_method_12_code 96 = .ok (.aload_n 0, 1) := by decide +kernel
theorem d_Lines_heldAlways_97 : decode prog_6_method_12_code 97 = .ok (.iload 6, 2) := by decide +kernel
theorem d_Lines_heldAlways_99 : decode prog_6_method_12_code 99 = .ok (.iload 10, 2) := by decide +kernel
theorem d_Lines_heldAlways_101 : decode prog_6_method_12_code 101 = .ok (.invokevirtual 53, 3) := by decide +kernel
theorem d_Lines_heldAlways_104 : decode prog_6_method_12_code 104 = .ok (.ifCond .le 50, 3) := by decide +kernel
theorem d_Lines_heldAlways_107 : decode prog_6_method_12_code 107 = .ok (.iload 7, 2) := by decide +kernel
theorem d_Lines_heldAlways_109 : decode prog_6_method_12_code 109 = .ok (.iconst 1, 1) := by decide +kernel
theorem d_Lines_heldAlways_110 : decode prog_6_method_12_code 110 = .ok (.iload 10, 2) := by decide +kernel
theorem d_Lines_heldAlways_112 : decode prog_6_method_12_code 112 = .ok (.invokestatic 65, 3) := by decide +kernel
theorem d_Lines_heldAlways_115 : decode prog_6_method_12_code 115 = .ok (.ishl, 1) := by decide +kernel
theorem d_Lines_heldAlways_116 : decode prog_6_method_12_code 116 = .ok (.ior, 1) := by decide +kernel
theorem d_Lines_heldAlways_117 : decode prog_6_method_12_code 117 = .ok (.istore 7, 2) := by decide +kernel
theorem d_Lines_heldAlways_119 : decode prog_6_method_12_code 119 = .ok (.iload 4, 2) := by decide +kernel
theorem d_Lines_heldAlways_121 : decode prog_6_method_12_code 121 = .ok (.iload_n 1, 1) := by decide +kernel
theorem d_Lines_heldAlways_122 : decode prog_6_method_12_code 122 = .ok (.ifCond .ne 10, 3) := by decide +kernel
theorem d_Lines_heldAlways_125 : decode prog_6_method_12_code 125 = .ok (.iload 9, 2) := by decide +kernel
theorem d_Lines_heldAlways_127 : decode prog_6_method_12_code 127 = .ok (.iconst 4, 1) := by decide +kernel
theorem d_Lines_heldAlways_128 : decode prog_6_method_12_code 128 = .ok (.idiv, 1) := by decide +kernel
theorem d_Lines_heldAlways_129 : decode prog_6_method_12_code 129 = .ok (.goto 7, 3) := by decide +kernel
theorem d_Lines_heldAlways_132 : decode prog_6_method_12_code 132 = .ok (.iload 9, 2) := by decide +kernel
theorem d_Lines_heldAlways_134 : decode prog_6_method_12_code 134 = .ok (.iconst 4, 1) := by decide +kernel
theorem d_Lines_heldAlways_135 : decode prog_6_method_12_code 135 = .ok (.irem, 1) := by decide +kernel
theorem d_Lines_heldAlways_136 : decode prog_6_method_12_code 136 = .ok (.iconst 3, 1) := by decide +kernel
theorem d_Lines_heldAlways_137 : decode prog_6_method_12_code 137 = .ok (.if_icmp .ne 8, 3) := by decide +kernel
theorem d_Lines_heldAlways_140 : decode prog_6_method_12_code 140 = .ok (.iload 4, 2) := by decide +kernel
theorem d_Lines_heldAlways_142 : decode prog_6_method_12_code 142 = .ok (.goto 9, 3) := by decide +kernel
theorem d_Lines_heldAlways_145 : decode prog_6_method_12_code 145 = .ok (.iconst 1, 1) := by decide +kernel
theorem d_Lines_heldAlways_146 : decode prog_6_method_12_code 146 = .ok (.iload 6, 2) := by decide +kernel
theorem d_Lines_heldAlways_148 : decode prog_6_method_12_code 148 = .ok (.ishl, 1) := by decide +kernel
theorem d_Lines_heldAlways_149 : decode prog_6_method_12_code 149 = .ok (.iconst (-1), 1) := by decide +kernel
theorem d_Lines_heldAlways_150 : decode prog_6_method_12_code 150 = .ok (.ixor, 1) := by decide +kernel
theorem d_Lines_heldAlways_151 : decode prog_6_method_12_code 151 = .ok (.iand, 1) := by decide +kernel
theorem d_Lines_heldAlways_152 : decode prog_6_method_12_code 152 = .ok (.istore 4, 2) := by decide +kernel
theorem d_Lines_heldAlways_154 : decode prog_6_method_12_code 154 = .ok (.iinc 8 1, 3) := by decide +kernel
theorem d_Lines_heldAlways_157 : decode prog_6_method_12_code 157 = .ok (.goto (-110), 3) := by decide +kernel
theorem d_Lines_heldAlways_160 : decode prog_6_method_12_code 160 = .ok (.iload 7, 2) := by decide +kernel
theorem d_Lines_heldAlways_162 : decode prog_6_method_12_code 162 = .ok (.istore 5, 2) := by decide +kernel
theorem d_Lines_heldAlways_164 : decode prog_6_method_12_code 164 = .ok (.iinc 6 1, 3) := by decide +kernel
theorem d_Lines_heldAlways_167 : decode prog_6_method_12_code 167 = .ok (.goto (-135), 3) := by decide +kernel
theorem d_Lines_heldAlways_170 : decode prog_6_method_12_code 170 = .ok (.iload 4, 2) := by decide +kernel
theorem d_Lines_heldAlways_172 : decode prog_6_method_12_code 172 = .ok (.ireturn, 1) := by decide +kernel
theorem w_Lines_heldAlways_J151 {p : Program} {l : Launch} {e : Env} {s : State} {m : MethodId} {args : Array Value} {below : List Frame} {meth : Method} {c : Code} {K : KT} {A : Nat → Prop} {Q : State → Prop} (C0 : Cx p s m args meth c prog_6_method_12_code "CanoeSides$Lines" 11 K A) (hr : meth.sig.returnType = (Option.some Jvm.ClassFile.FieldType.int)) {ad : Nat → Nat} (N : Nat) (x1 : Int32) (x3 : Int32) (x5 : Int32) (x6 : Int32) (x7 : Int32) (x8 : Int32) (y0 : Int32) (y1 : Int32) (h : Hp) {x_ : (Int32 × Int32 × Int32) ⊕ (Int32 × Int32)} (hE : K_Lines_heldAlways_J151 N x1 x3 x5 x6 x7 x8 y0 y1 h = some x_) (hk1 : ∀ z_, x_ = .inl z_ → G p l e rm_Lines_heldAlways s m args below meth c K A WLines 11 0 0 Q 47 [(0, .ref (ad 60)), (1, .int x1), (2, .ref (ad 20)), (3, .int x3), (4, .int z_.1), (5, .int x5), (6, .int x6), (7, .int z_.2.1), (8, .int z_.2.2)] [] ad h) (hk3 : ∀ z_, x_ = .inr z_ → G p l e rm_Lines_heldAlways s m args below meth c K A WLines 11 0 0 Q 160 [(0, .ref (ad 60)), (1, .int x1), (2, .ref (ad 20)), (3, .int x3), (4, .int z_.1), (6, .int x6), (7, .int z_.2)] [] ad h) : G p l e rm_Lines_heldAlways s m args below meth c K A WLines 11 0 0 Q 151 [(0, .ref (ad 60)), (1, .int x1), (2, .ref (ad 20)), (3, .int x3), (5, .int x5), (6, .int x6), (7, .int x7), (8, .int x8)] [.int y1, .int y0] ad h := by
  unfold K_Lines_heldAlways_J151 at hE
  refine g_iand C0 d_Lines_heldAlways_151 ?_
  obtain ⟨v152, e152, hE⟩ := nm_some hE
  refine g_top e152 ?_
  refine g_istore C0 [(4, .int v152), (0, .ref (ad 60)), (1, .int x1), (2, .ref (ad 20)), (3, .int x3), (5, .int x5), (6, .int x6), (7, .int x7), (8, .int x8)] d_Lines_heldAlways_152 (by decide) rfl ?_
  obtain ⟨v154, e154, hE⟩ := nm_some hE
  refine g_iinc C0 8 [(8, .int v154), (4, .int v152), (0, .ref (ad 60)), (1, .int x1), (2, .ref (ad 20)), (3, .int x3), (5, .int x5), (6, .int x6), (7, .int x7)] d_Lines_heldAlways_154 rfl (by rw [e154]; rfl) (by decide) rfl ?_
  refine g_goto C0 (tgt := 47) d_Lines_heldAlways_157 (by decide) ?_
  refine g_sub [2, 3, 4, 5, 1, 6, 7, 8, 0] (L' := [(0, .ref (ad 60)), (1, .int x1), (2, .ref (ad 20)), (3, .int x3), (4, .int v152), (5, .int x5), (6, .int x6), (7, .int x7), (8, .int v154)]) rfl ?_
  exact hk1 _ (Option.some.inj hE).symm
theorem w_Lines_heldAlways_J136 {p : Program} {l : Launch} {e : Env} {s : State} {m : MethodId} {args : Array Value} {below : List Frame} {meth : Method} {c : Code} {K : KT} {A : Nat → Prop} {Q : State → Prop} (C0 : Cx p s m args meth c prog_6_method_12_code "CanoeSides$Lines" 11 K A) (hr : meth.sig.returnType = (Option.some Jvm.ClassFile.FieldType.int)) {ad : Nat → Nat} (N : Nat) (x1 : Int32) (x3 : Int32) (x4 : Int32) (x5 : Int32) (x6 : Int32) (x7 : Int32) (x8 : Int32) (y0 : Int32) (y1 : Int32) (h : Hp) {x_ : (Int32 × Int32 × Int32) ⊕ (Int32 × Int32)} (hE : K_Lines_heldAlways_J136 N x1 x3 x4 x5 x6 x7 x8 y0 y1 h = some x_) (hk1 : ∀ z_, x_ = .inl z_ → G p l e rm_Lines_heldAlways s m args below meth c K A WLines 11 0 0 Q 47 [(0, .ref (ad 60)), (1, .int x1), (2, .ref (ad 20)), (3, .int x3), (4, .int z_.1), (5, .int x5), (6, .int x6), (7, .int z_.2.1), (8, .int z_.2.2)] [] ad h) (hk3 : ∀ z_, x_ = .inr z_ → G p l e rm_Lines_heldAlways s m args below meth c K A WLines 11 0 0 Q 160 [(0, .ref (ad 60)), (1, .int x1), (2, .ref (ad 20)), (3, .int x3), (4, .int z_.1), (6, .int x6), (7, .int z_.2)] [] ad h) : G p l e rm_Lines_heldAlways s m args below meth c K A WLines 11 0 0 Q 136 [(0, .ref (ad 60)), (1, .int x1), (2, .ref (ad 20)), (3, .int x3), (4, .int x4), (5, .int x5), (6, .int x6), (7, .int x7), (8, .int x8)] [.int y1, .int y0] ad h := by
  unfold K_Lines_heldAlways_J136 at hE
  refine g_iconst C0 (v := 3) d_Lines_heldAlways_136 (by decide) ?_
  have hB := ite_some hE
  refine g_icmp_ne C0 (tgt := 145) d_Lines_heldAlways_137 (by decide) (fun c_ => ?_) (fun c_ => ?_)
  · replace hE := hB.2 c_
    refine g_iconst C0 (v := 1) d_Lines_heldAlways_145 (by decide) ?_
    refine g_iload C0 6 d_Lines_heldAlways_146 rfl ?_
    refine g_ishl C0 d_Lines_heldAlways_148 ?_
    refine g_iconst C0 (v := (-1)) d_Lines_heldAlways_149 (by decide) ?_
    refine g_ixor C0 d_Lines_heldAlways_150 ?_
    refine g_sub [0, 1, 2, 3, 5, 6, 7, 8] (L' := [(0, .ref (ad 60)), (1, .int x1), (2, .ref (ad 20)), (3, .int x3), (5, .int x5), (6, .int x6), (7, .int x7), (8, .int x8)]) rfl ?_
    exact w_Lines_heldAlways_J151 C0 hr N x1 x3 x5 x6 x7 x8 y0 ((1 <<< (x6 &&& 31)) ^^^ (-1)) h hE hk1 hk3
  · replace hE := hB.1 c_
    refine g_iload C0 4 d_Lines_heldAlways_140 rfl ?_
    refine g_goto C0 (tgt := 151) d_Lines_heldAlways_142 (by decide) ?_
    refine g_sub [0, 1, 2, 3, 5, 6, 7, 8] (L' := [(0, .ref (ad 60)), (1, .int x1), (2, .ref (ad 20)), (3, .int x3), (5, .int x5), (6, .int x6), (7, .int x7), (8, .int x8)]) rfl ?_
    exact w_Lines_heldAlways_J151 C0 hr N x1 x3 x5 x6 x7 x8 y0 x4 h hE hk1 hk3
theorem w_Lines_heldAlways_L47 {p : Program} {l : Launch} {e : Env} {s : State} {m : MethodId} {args : Array Value} {below : List Frame} {meth : Method} {c : Code} {K : KT} {A : Nat → Prop} {Q : State → Prop} (C0 : Cx p s m args meth c prog_6_method_12_code "CanoeSides$Lines" 11 K A) (hr : meth.sig.returnType = (Option.some Jvm.ClassFile.FieldType.int)) {ad : Nat → Nat} (N : Nat) (x1 : Int32) (x3 : Int32) (x4 : Int32) (x5 : Int32) (x6 : Int32) (x7 : Int32) (x8 : Int32) (h : Hp) {x_ : (Int32 × Int32 × Int32) ⊕ (Int32 × Int32)} (hE : K_Lines_heldAlways_L47 N x1 x3 x4 x5 x6 x7 x8 h = some x_) (hk1 : ∀ z_, x_ = .inl z_ → G p l e rm_Lines_heldAlways s m args below meth c K A WLines 11 0 0 Q 47 [(0, .ref (ad 60)), (1, .int x1), (2, .ref (ad 20)), (3, .int x3), (4, .int z_.1), (5, .int x5), (6, .int x6), (7, .int z_.2.1), (8, .int z_.2.2)] [] ad h) (hk3 : ∀ z_, x_ = .inr z_ → G p l e rm_Lines_heldAlways s m args below meth c K A WLines 11 0 0 Q 160 [(0, .ref (ad 60)), (1, .int x1), (2, .ref (ad 20)), (3, .int x3), (4, .int z_.1), (6, .int x6), (7, .int z_.2)] [] ad h) : G p l e rm_Lines_heldAlways s m args below meth c K A WLines 11 0 0 Q 47 [(0, .ref (ad 60)), (1, .int x1), (2, .ref (ad 20)), (3, .int x3), (4, .int x4), (5, .int x5), (6, .int x6), (7, .int x7), (8, .int x8)] [] ad h := by
  unfold K_Lines_heldAlways_L47 at hE
  refine g_iload C0 8 d_Lines_heldAlways_47 rfl ?_
  refine g_sipush C0 (v := 128) d_Lines_heldAlways_49 (by decide) ?_
  have hB := ite_some hE
  refine g_icmp_ge C0 (tgt := 160) d_Lines_heldAlways_52 (by decide) (fun c_ => ?_) (fun c_ => ?_)
  · replace hE := hB.1 c_
    refine g_sub [0, 1, 2, 3, 4, 6, 7] (L' := [(0, .ref (ad 60)), (1, .int x1), (2, .ref (ad 20)), (3, .int x3), (4, .int x4), (6, .int x6), (7, .int x7)]) rfl ?_
    exact hk3 _ (Option.some.inj hE).symm
  · replace hE := hB.2 c_
    refine g_iload C0 8 d_Lines_heldAlways_55 rfl ?_
    refine g_bipush C0 (v := 16) d_Lines_heldAlways_57 (by decide) ?_
    refine g_irem C0 d_Lines_heldAlways_59 (by decide) ?_
    obtain ⟨v60, e60, hE⟩ := nm_some hE
    refine g_top e60 ?_
    refine g_istore C0 [(9, .int v60), (0, .ref (ad 60)), (1, .int x1), (2, .ref (ad 20)), (3, .int x3), (4, .int x4), (5, .int x5), (6, .int x6), (7, .int x7), (8, .int x8)] d_Lines_heldAlways_60 (by decide) rfl ?_
    refine g_aload_n C0 3 d_Lines_heldAlways_62 rfl rfl ?_
    refine g_aload_n C0 1 d_Lines_heldAlways_63 rfl rfl ?_
    refine g_iload C0 7 d_Lines_heldAlways_64 rfl ?_
    refine g_iload C0 9 d_Lines_heldAlways_66 rfl ?_
    refine g_bipush C0 (v := 16) d_Lines_heldAlways_68 (by decide) ?_
    refine g_idiv C0 d_Lines_heldAlways_70 (by decide) ?_
    refine g_aload_n C0 3 d_Lines_heldAlways_71 rfl rfl ?_
    refine g_iload_n C0 4 d_Lines_heldAlways_72 rfl rfl ?_
    obtain ⟨v73, z73, hE⟩ := bd_some hE
    refine g_calliP C0 nd_Lines [60, 61, 62, 63, 64, 20, 21, 22, 15, 16, 17] rfl (sbW_self WLines) (runV C0 (m_Lines_momentBehind l K ad h x6 (x8 / 16) x3 z73) 4 rfl ⟨t_1009, t_1011, t_38, t_92, t_1012⟩ cd_Lines_momentBehind (by decide) 0 rfl rfl (sbW_self WLines) nd_Lines rfl rfl (Nat.le_of_ble_eq_true rfl) d_Lines_heldAlways_73) ?_
    refine g_iload C0 0 d_Lines_heldAlways_76 rfl ?_
    obtain ⟨v78, z78, hE⟩ := bd_some hE
    refine g_calliP C0 nd_Lines [20, 21, 22, 15, 16, 17] rfl (sb_Crew_Lines) (runV C0 (m_Crew_after l K ad h v73 v60 z78) 2 rfl ⟨t_1015, t_773, t_774, t_89, t_775⟩ cd_Crew_after (by decide) 5 rfl rfl (sb_Crew_Lines) nd_Crew rfl rfl (Nat.le_of_ble_eq_true rfl) d_Lines_heldAlways_78) ?_
    refine g_istore C0 [(10, .int v78), (9, .int v60), (0, .ref (ad 60)), (1, .int x1), (2, .ref (ad 20)), (3, .int x3), (4, .int x4), (5, .int x5), (6, .int x6), (7, .int x7), (8, .int x8)] d_Lines_heldAlways_81 (by decide) rfl ?_
    refine g_iload C0 7 d_Lines_heldAlways_83 rfl ?_
    refine g_iload C0 10 d_Lines_heldAlways_85 rfl ?_
    refine g_bipush C0 (v := 16) d_Lines_heldAlways_87 (by decide) ?_
    refine g_idiv C0 d_Lines_heldAlways_89 (by decide) ?_
    refine g_ishr C0 d_Lines_heldAlways_90 ?_
    refine g_iconst C0 (v := 1) d_Lines_heldAlways_91 (by decide) ?_
    refine g_iand C0 d_Lines_heldAlways_92 ?_
    have hB := ite_some hE
    refine g_if_eq C0 (tgt := 154) d_Lines_heldAlways_93 (by decide) (fun c_ => ?_) (fun c_ => ?_)
    · replace hE := hB.1 c_
      obtain ⟨v154, e154, hE⟩ := nm_some hE
      refine g_iinc C0 10 [(8, .int v154), (10, .int v78), (9, .int v60), (0, .ref (ad 60)), (1, .int x1), (2, .ref (ad 20)), (3, .int x3), (4, .int x4), (5, .int x5), (6, .int x6), (7, .int x7)] d_Lines_heldAlways_154 rfl (by rw [e154]; rfl) (by decide) rfl ?_
      refine g_goto C0 (tgt := 47) d_Lines_heldAlways_157 (by decide) ?_
      refine g_sub [3, 4, 5, 6, 7, 8, 9, 10, 0] (L' := [(0, .ref (ad 60)), (1, .int x1), (2, .ref (ad 20)), (3, .int x3), (4, .int x4), (5, .int x5), (6, .int x6), (7, .int x7), (8, .int v154)]) rfl ?_
      exact hk1 _ (Option.some.inj hE).symm
    · replace hE := hB.2 c_
      refine g_aload_n C0 2 d_Lines_heldAlways_96 rfl rfl ?_
      refine g_iload C0 8 d_Lines_heldAlways_97 rfl ?_
      refine g_iload C0 0 d_Lines_heldAlways_99 rfl ?_
      obtain ⟨v101, z101, hE⟩ := bd_some hE
      refine g_calliP C0 nd_Lines [60, 61, 62, 63, 64, 20, 21, 22, 15, 16, 17] rfl (sbW_self WLines) (runV C0 (m_Lines_waysBehind l K ad h x6 v78 z101) 2 rfl ⟨t_1016, t_1018, t_39, t_92, t_1019⟩ cd_Lines_waysBehind (by decide) 0 rfl rfl (sbW_self WLines) nd_Lines rfl rfl (Nat.le_of_ble_eq_true rfl) d_Lines_heldAlways_101) ?_
      have hB := ite_some hE
      refine g_if_le C0 (tgt := 154) d_Lines_heldAlways_104 (by decide) (fun c_ => ?_) (fun c_ => ?_)
      · replace hE := hB.1 c_
        obtain ⟨v154, e154, hE⟩ := nm_some hE
        refine g_iinc C0 10 [(8, .int v154), (10, .int v78), (9, .int v60), (0, .ref (ad 60)), (1, .int x1), (2, .ref (ad 20)), (3, .int x3), (4, .int x4), (5, .int x5), (6, .int x6), (7, .int x7)] d_Lines_heldAlways_154 rfl (by rw [e154]; rfl) (by decide) rfl ?_
        refine g_goto C0 (tgt := 47) d_Lines_heldAlways_157 (by decide) ?_
        refine g_sub [3, 4, 5, 6, 7, 8, 9, 10, 0] (L' := [(0, .ref (ad 60)), (1, .int x1), (2, .ref (ad 20)), (3, .int x3), (4, .int x4), (5, .int x5), (6, .int x6), (7, .int x7), (8, .int v154)]) rfl ?_
        exact hk1 _ (Option.some.inj hE).symm
      · replace hE := hB.2 c_
        refine g_iload C0 9 d_Lines_heldAlways_107 rfl ?_
        refine g_iconst C0 (v := 1) d_Lines_heldAlways_109 (by decide) ?_
        refine g_iload C0 0 d_Lines_heldAlways_110 rfl ?_
        obtain ⟨v112, z112, hE⟩ := bd_some hE
        refine g_calliP C0 nd_Lines [] rfl (sb_E_Lines) (runSN C0 (m_C_headingOf l K ad h v78 z112) 1 ⟨t_1024, t_723, t_85, t_724⟩ cd_C_headingOf (by decide) (sb_E_Lines) nd_E rfl rfl (Nat.le_of_ble_eq_true rfl) d_Lines_heldAlways_112) ?_
        refine g_ishl C0 d_Lines_heldAlways_115 ?_
        refine g_ior C0 d_Lines_heldAlways_116 ?_
        obtain ⟨v117, e117, hE⟩ := nm_some hE
        refine g_top e117 ?_
        refine g_istore C0 [(7, .int v117), (10, .int v78), (9, .int v60), (0, .ref (ad 60)), (1, .int x1), (2, .ref (ad 20)), (3, .int x3), (4, .int x4), (5, .int x5), (6, .int x6), (8, .int x8)] d_Lines_heldAlways_117 (by decide) rfl ?_
        refine g_iload C0 7 d_Lines_heldAlways_119 rfl ?_
        refine g_iload_n C0 4 d_Lines_heldAlways_121 rfl rfl ?_
        have hB := ite_some hE
        refine g_if_ne C0 (tgt := 132) d_Lines_heldAlways_122 (by decide) (fun c_ => ?_) (fun c_ => ?_)
        · replace hE := hB.2 c_
          refine g_iload C0 2 d_Lines_heldAlways_132 rfl ?_
          refine g_iconst C0 (v := 4) d_Lines_heldAlways_134 (by decide) ?_
          refine g_irem C0 d_Lines_heldAlways_135 (by decide) ?_
          refine g_sub [3, 4, 5, 6, 7, 8, 9, 0, 10] (L' := [(0, .ref (ad 60)), (1, .int x1), (2, .ref (ad 20)), (3, .int x3), (4, .int x4), (5, .int x5), (6, .int x6), (7, .int v117), (8, .int x8)]) rfl ?_
          exact w_Lines_heldAlways_J136 C0 hr N x1 x3 x4 x5 x6 v117 x8 x4 (rm32 v60 4) h hE hk1 hk3
        · replace hE := hB.1 c_
          refine g_iload C0 2 d_Lines_heldAlways_125 rfl ?_
          refine g_iconst C0 (v := 4) d_Lines_heldAlways_127 (by decide) ?_
          refine g_idiv C0 d_Lines_heldAlways_128 (by decide) ?_
          refine g_goto C0 (tgt := 136) d_Lines_heldAlways_129 (by decide) ?_
          refine g_sub [3, 4, 5, 6, 7, 8, 9, 0, 10] (L' := [(0, .ref (ad 60)), (1, .int x1), (2, .ref (ad 20)), (3, .int x3), (4, .int x4), (5, .int x5), (6, .int x6), (7, .int v117), (8, .int x8)]) rfl ?_
          exact w_Lines_heldAlways_J136 C0 hr N x1 x3 x4 x5 x6 v117 x8 x4 (v60 / 4) h hE hk1 hk3
theorem w_Lines_heldAlways_L32 {p : Program} {l : Launch} {e : Env} {s : State} {m : MethodId} {args : Array Value} {below : List Frame} {meth : Method} {c : Code} {K : KT} {A : Nat → Prop} {Q : State → Prop} (C0 : Cx p s m args meth c prog_6_method_12_code "CanoeSides$Lines" 11 K A) (hr : meth.sig.returnType = (Option.some Jvm.ClassFile.FieldType.int)) {ad : Nat → Nat} (N : Nat) (x1 : Int32) (x3 : Int32) (x4 : Int32) (x5 : Int32) (x6 : Int32) (h : Hp) {x_ : (Int32 × Int32 × Int32) ⊕ (Int32)} (hE : K_Lines_heldAlways_L32 N x1 x3 x4 x5 x6 h = some x_) (hk1 : ∀ z_, x_ = .inl z_ → G p l e rm_Lines_heldAlways s m args below meth c K A WLines 11 0 0 Q 32 [(0, .ref (ad 60)), (1, .int x1), (2, .ref (ad 20)), (3, .int x3), (4, .int z_.1), (5, .int z_.2.1), (6, .int z_.2.2)] [] ad h) (hk3 : ∀ z_, x_ = .inr z_ → G p l e rm_Lines_heldAlways s m args below meth c K A WLines 11 0 0 Q 170 [(4, .int z_)] [] ad h) : G p l e rm_Lines_heldAlways s m args below meth c K A WLines 11 0 0 Q 32 [(0, .ref (ad 60)), (1, .int x1), (2, .ref (ad 20)), (3, .int x3), (4, .int x4), (5, .int x5), (6, .int x6)] [] ad h := by
  unfold K_Lines_heldAlways_L32 at hE
  refine g_iload C0 6 d_Lines_heldAlways_32 rfl ?_
  refine g_aload_n C0 0 d_Lines_heldAlways_34 rfl rfl ?_
  refine g_geti C0 CK_4 4 (by decide) t_275 0 rfl rfl d_Lines_heldAlways_35 ?_
  have hB := ite_some hE
  refine g_icmp_ge C0 (tgt := 170) d_Lines_heldAlways_38 (by decide) (fun c_ => ?_) (fun c_ => ?_)
  · replace hE := hB.1 c_
    refine g_sub [4] (L' := [(4, .int x4)]) rfl ?_
    exact hk3 _ (Option.some.inj hE).symm
  · replace hE := hB.2 c_
    refine g_iconst C0 (v := 0) d_Lines_heldAlways_41 (by decide) ?_
    refine g_istore C0 [(7, .int 0), (0, .ref (ad 60)), (1, .int x1), (2, .ref (ad 20)), (3, .int x3), (4, .int x4), (5, .int x5), (6, .int x6)] d_Lines_heldAlways_42 (by decide) rfl ?_
    refine g_iconst C0 (v := 0) d_Lines_heldAlways_44 (by decide) ?_
    refine g_istore C0 [(8, .int 0), (7, .int 0), (0, .ref (ad 60)), (1, .int x1), (2, .ref (ad 20)), (3, .int x3), (4, .int x4), (5, .int x5), (6, .int x6)] d_Lines_heldAlways_45 (by decide) rfl ?_
    refine g_sub [2, 3, 4, 5, 6, 7, 8, 1, 0] (L' := [(0, .ref (ad 60)), (1, .int x1), (2, .ref (ad 20)), (3, .int x3), (4, .int x4), (5, .int x5), (6, .int x6), (7, .int 0), (8, .int 0)]) rfl ?_
    obtain ⟨t47, z47, hE⟩ := bd_some hE
    refine loopG (fun z_ : Int32 × Int32 × Int32 => K_Lines_heldAlways_L47 N x1 x3 z_.1 x5 x6 z_.2.1 z_.2.2 h) (fun z_ : Int32 × Int32 × Int32 => G p l e rm_Lines_heldAlways s m args below meth c K A WLines 11 0 0 _ 47 [(0, .ref (ad 60)), (1, .int x1), (2, .ref (ad 20)), (3, .int x3), (4, .int z_.1), (5, .int x5), (6, .int x6), (7, .int z_.2.1), (8, .int z_.2.2)] [] ad h) (fun z_ : Int32 × Int32 => G p l e rm_Lines_heldAlways s m args below meth c K A WLines 11 0 0 _ 160 [(0, .ref (ad 60)), (1, .int x1), (2, .ref (ad 20)), (3, .int x3), (4, .int z_.1), (6, .int x6), (7, .int z_.2)] [] ad h) (fun z_ x_ hz k1 k2 => w_Lines_heldAlways_L47 C0 hr N x1 x3 z_.1 x5 x6 z_.2.1 z_.2.2 h hz k1 k2) _ _ _ z47 ?_
    try dsimp only
    refine g_iload C0 6 d_Lines_heldAlways_160 rfl ?_
    obtain ⟨v162, e162, hE⟩ := nm_some hE
    refine g_top e162 ?_
    refine g_istore C0 [(5, .int v162), (0, .ref (ad 60)), (1, .int x1), (2, .ref (ad 20)), (3, .int x3), (4, .int t47.1), (6, .int x6), (7, .int t47.2)] d_Lines_heldAlways_162 (by decide) rfl ?_
    obtain ⟨v164, e164, hE⟩ := nm_some hE
    refine g_iinc C0 6 [(6, .int v164), (5, .int v162), (0, .ref (ad 60)), (1, .int x1), (2, .ref (ad 20)), (3, .int x3), (4, .int t47.1), (7, .int t47.2)] d_Lines_heldAlways_164 rfl (by rw [e164]; rfl) (by decide) rfl ?_
    refine g_goto C0 (tgt := 32) d_Lines_heldAlways_167 (by decide) ?_
    refine g_sub [2, 3, 4, 5, 6, 1, 0] (L' := [(0, .ref (ad 60)), (1, .int x1), (2, .ref (ad 20)), (3, .int x3), (4, .int t47.1), (5, .int v162), (6, .int v164)]) rfl ?_
    exact hk1 _ (Option.some.inj hE).symm
theorem w_Lines_heldAlways {p : Program} {l : Launch} {e : Env} {s : State} {m : MethodId} {args : Array Value} {below : List Frame} {meth : Method} {c : Code} {K : KT} {A : Nat → Prop} (C0 : Cx p s m args meth c prog_6_method_12_code "CanoeSides$Lines" 11 K A) (hr : meth.sig.returnType = (Option.some Jvm.ClassFile.FieldType.int)) {ad : Nat → Nat} (N : Nat) (a0 : Int32) (c0 : Int32) (h : Hp) {res : Int32} (hE : K_Lines_heldAlways N a0 c0 h = some res) : G p l e rm_Lines_heldAlways s m args below meth c K A WLines 11 0 0 (QI s args below K A WLines 0 0 ad res h) 0 [(0, .ref (ad 60)), (1, .int a0), (2, .ref (ad 20)), (3, .int c0)] [] ad h := by
  unfold K_Lines_heldAlways at hE
  refine g_aload_n C0 0 d_Lines_heldAlways_0 rfl rfl ?_
  refine g_iconst C0 (v := 0) d_Lines_heldAlways_1 (by decide) ?_
  refine g_iload_n C0 3 d_Lines_heldAlways_2 rfl rfl ?_
  obtain ⟨v3, z3, hE⟩ := bd_some hE
  refine g_calliP C0 nd_Lines [60, 61, 62, 63, 64, 20, 21, 22, 15, 16, 17] rfl (sbW_self WLines) (runV C0 (m_Lines_waysFrom l K ad h 0 c0 z3) 2 rfl ⟨t_1020, t_1021, t_1022, t_92, t_1023⟩ cd_Lines_waysFrom (by decide) 0 rfl rfl (sbW_self WLines) nd_Lines rfl rfl (Nat.le_of_ble_eq_true rfl) d_Lines_heldAlways_3) ?_
  have hB := ite_some hE
  refine g_if_ne C0 (tgt := 11) d_Lines_heldAlways_6 (by decide) (fun c_ => ?_) (fun c_ => ?_)
  · replace hE := hB.2 c_
    refine g_iconst C0 (v := 1) d_Lines_heldAlways_11 (by decide) ?_
    refine g_aload_n C0 0 d_Lines_heldAlways_12 rfl rfl ?_
    refine g_geti C0 CK_4 4 (by decide) t_275 0 rfl rfl d_Lines_heldAlways_13 ?_
    refine g_ishl C0 d_Lines_heldAlways_16 ?_
    refine g_iconst C0 (v := 1) d_Lines_heldAlways_17 (by decide) ?_
    refine g_isub C0 d_Lines_heldAlways_18 ?_
    obtain ⟨v19, e19, hE⟩ := nm_some hE
    refine g_top e19 ?_
    refine g_istore C0 [(4, .int v19), (0, .ref (ad 60)), (1, .int a0), (2, .ref (ad 20)), (3, .int c0)] d_Lines_heldAlways_19 (by decide) rfl ?_
    refine g_iconst C0 (v := 1) d_Lines_heldAlways_21 (by decide) ?_
    refine g_iload_n C0 4 d_Lines_heldAlways_22 rfl rfl ?_
    obtain ⟨v23, z23, hE⟩ := bd_some hE
    refine g_calliP C0 nd_Lines [] rfl (sb_E_Lines) (runSN C0 (m_C_headingOf l K ad h c0 z23) 1 ⟨t_1024, t_723, t_85, t_724⟩ cd_C_headingOf (by decide) (sb_E_Lines) nd_E rfl rfl (Nat.le_of_ble_eq_true rfl) d_Lines_heldAlways_23) ?_
    refine g_ishl C0 d_Lines_heldAlways_26 ?_
    obtain ⟨v27, e27, hE⟩ := nm_some hE
    refine g_top e27 ?_
    refine g_istore C0 [(5, .int v27), (4, .int v19), (0, .ref (ad 60)), (1, .int a0), (2, .ref (ad 20)), (3, .int c0)] d_Lines_heldAlways_27 (by decide) rfl ?_
    refine g_iconst C0 (v := 0) d_Lines_heldAlways_29 (by decide) ?_
    refine g_istore C0 [(6, .int 0), (5, .int v27), (4, .int v19), (0, .ref (ad 60)), (1, .int a0), (2, .ref (ad 20)), (3, .int c0)] d_Lines_heldAlways_30 (by decide) rfl ?_
    refine g_sub [3, 4, 5, 6, 2, 1, 0] (L' := [(0, .ref (ad 60)), (1, .int a0), (2, .ref (ad 20)), (3, .int c0), (4, .int v19), (5, .int v27), (6, .int 0)]) rfl ?_
    obtain ⟨t32, z32, hE⟩ := bd_some hE
    refine loopG (fun z_ : Int32 × Int32 × Int32 => K_Lines_heldAlways_L32 N a0 c0 z_.1 z_.2.1 z_.2.2 h) (fun z_ : Int32 × Int32 × Int32 => G p l e rm_Lines_heldAlways s m args below meth c K A WLines 11 0 0 _ 32 [(0, .ref (ad 60)), (1, .int a0), (2, .ref (ad 20)), (3, .int c0), (4, .int z_.1), (5, .int z_.2.1), (6, .int z_.2.2)] [] ad h) (fun z_ : Int32 => G p l e rm_Lines_heldAlways s m args below meth c K A WLines 11 0 0 _ 170 [(4, .int z_)] [] ad h) (fun z_ x_ hz k1 k2 => w_Lines_heldAlways_L32 C0 hr N a0 c0 z_.1 z_.2.1 z_.2.2 h hz k1 k2) _ _ _ z32 ?_
    try dsimp only
    refine g_iload C0 0 d_Lines_heldAlways_170 rfl ?_
    obtain rfl := Option.some.inj hE
    exact g_iret C0 hr d_Lines_heldAlways_172
  · replace hE := hB.1 c_
    refine g_iconst C0 (v := 0) d_Lines_heldAlways_9 (by decide) ?_
    obtain rfl := Option.some.inj hE
    exact g_iret C0 hr d_Lines_heldAlways_10
theorem m_Lines_heldAlways (l : Launch) (K : KT) (ad : Nat → Nat) (h : Hp) (N : Nat) (a0 : Int32) (c0 : Int32) {res : Int32} (hE : K_Lines_heldAlways N a0 c0 h = some res) : ConI l y_Lines_heldAlways prog_6_method_12_code 11 (Option.some Jvm.ClassFile.FieldType.int) rm_Lines_heldAlways K WLines ad h [.ref (ad 60), .int a0, .ref (ad 20), .int c0] res h := fun sz =>
  con_start [(0, .ref (ad 60)), (1, .int a0), (2, .ref (ad 20)), (3, .int c0)] (by decide +kernel) rfl (Nat.le_of_ble_eq_true rfl) (fun p e s m args below meth c C0 hr hnm hsz => w_Lines_heldAlways C0 hr N a0 c0 h hE)
abbrev y_Log_add : MethodName := ⟨"CanoeSides$Log", "add", "(I)V"⟩
abbrev rm_Log_add : Room := { frames := 1, cells := 0, slots := 0, locals := 21 }
theorem cd_Log_add : cwd y_Log_add 1 := by decide +kernel
theorem d_Log_add_0 : decode prog_7_method_2_code 0 = .ok (.aload_n 0, 1) := by decide +kernel
theorem d_Log_add_1 : decode prog_7_method_2_code 1 = .ok (.getfield 15, 3) := by decide +kernel
theorem d_Log_add_4 : decode prog_7_method_2_code 4 = .ok (.ifCond .lt 25, 3) := by decide +kernel
theorem d_Log_add_7 : decode prog_7_method_2_code 7 = .ok (.aload_n 0, 1) := by decide +kernel
theorem d_Log_add_8 : decode prog_7_method_2_code 8 = .ok (.getfield 15, 3) := by decide +kernel
theorem d_Log_add_11 : decode prog_7_method_2_code 11 = .ok (.aload_n 0, 1) := by decide +kernel
theorem d_Log_add_12 : decode prog_7_method_2_code 12 = .ok (.getfield 9, 3) := by decide +kernel
theorem d_Log_add_15 : decode prog_7_method_2_code 15 = .ok (.arraylength, 1) := by decide +kernel
theorem d_Log_add_16 : decode prog_7_method_2_code 16 = .ok (.if_icmp .ge 13, 3) := by decide +kernel
theorem d_Log_add_19 : decode prog_7_method_2_code 19 = .ok (.aload_n 0, 1) := by decide +kernel
theorem d_Log_add_20 : decode prog_7_method_2_code 20 = .ok (.getfield 9, 3) := by decide +kernel
theorem d_Log_add_23 : decode prog_7_method_2_code 23 = .ok (.aload_n 0, 1) := by decide +kernel
theorem d_Log_add_24 : decode prog_7_method_2_code 24 = .ok (.getfield 15, 3) := by decide +kernel
theorem d_Log_add_27 : decode prog_7_method_2_code 27 = .ok (.iload_n 1, 1) := by decide +kernel
theorem d_Log_add_28 : decode prog_7_method_2_code 28 = .ok (.iastore, 1) := by decide +kernel
theorem d_Log_add_29 : decode prog_7_method_2_code 29 = .ok (.aload_n 0, 1) := by decide +kernel
theorem d_Log_add_30 : decode prog_7_method_2_code 30 = .ok (.aload_n 0, 1) := by decide +kernel
theorem d_Log_add_31 : decode prog_7_method_2_code 31 = .ok (.getfield 15, 3) := by decide +kernel
theorem d_Log_add_34 : decode prog_7_method_2_code 34 = .ok (.iconst 1, 1) := by decide +kernel
theorem d_Log_add_35 : decode prog_7_method_2_code 35 = .ok (.iadd, 1) := by decide +kernel
theorem d_Log_add_36 : decode prog_7_method_2_code 36 = .ok (.bipush 50, 2) := by decide +kernel
theorem d_Log_add_38 : decode prog_7_method_2_code 38 = .ok (.irem, 1) := by decide +kernel
theorem d_Log_add_39 : decode prog_7_method_2_code 39 = .ok (.putfield 15, 3) := by decide +kernel
theorem d_Log_add_42 : decode prog_7_method_2_code 42 = .ok (.aload_n 0, 1) := by decide +kernel
theorem d_Log_add_43 : decode prog_7_method_2_code 43 = .ok (.aload_n 0, 1) := by decide +kernel
theorem d_Log_add_44 : decode prog_7_method_2_code 44 = .ok (.getfield 19, 3) := by decide +kernel
theorem d_Log_add_47 : decode prog_7_method_2_code 47 = .ok (.iconst 1, 1) := by decide +kernel
theorem d_Log_add_48 : decode prog_7_method_2_code 48 = .ok (.iadd, 1) := by decide +kernel
theorem d_Log_add_49 : decode prog_7_method_2_code 49 = .ok (.bipush 50, 2) := by decide +kernel
theorem d_Log_add_51 : decode prog_7_method_2_code 51 = .ok (.invokestatic 22, 3) := by decide +kernel
theorem d_Log_add_54 : decode prog_7_method_2_code 54 = .ok (.putfield 19, 3) := by decide +kernel
theorem d_Log_add_57 : decode prog_7_method_2_code 57 = .ok (.return_, 1) := by decide +kernel
theorem w_Log_add_J29 {p : Program} {l : Launch} {e : Env} {s : State} {m : MethodId} {args : Array Value} {below : List Frame} {meth : Method} {c : Code} {K : KT} {A : Nat → Prop} (C0 : Cx p s m args meth c prog_7_method_2_code "CanoeSides$Log" 2 K A) (hr : meth.sig.returnType = (Option.none : Option Jvm.ClassFile.FieldType)) {ad : Nat → Nat} (h : Hp) {res : Hp} (hE : K_Log_add_J29 h = some res) : G p l e rm_Log_add s m args below meth c K A WLog 2 0 0 (QV s args below K A WLog 0 0 ad res) 29 [(0, .ref (ad 35))] [] ad h := by
  unfold K_Log_add_J29 at hE
  refine g_aload_n C0 0 d_Log_add_29 rfl rfl ?_
  refine g_aload_n C0 0 d_Log_add_30 rfl rfl ?_
  refine g_geti C0 CK_5 1 (by decide) t_255 0 rfl rfl d_Log_add_31 ?_
  refine g_iconst C0 (v := 1) d_Log_add_34 (by decide) ?_
  refine g_iadd C0 d_Log_add_35 ?_
  refine g_bipush C0 (v := 50) d_Log_add_36 (by decide) ?_
  refine g_irem C0 d_Log_add_38 (by decide) ?_
  obtain ⟨h39, e39, hE⟩ := nm_some hE
  refine g_puti C0 CK_5 CT_5 1 (by decide) t_255 rfl (by decide +kernel) nd_Log 0 rfl rfl d_Log_add_39 ?_
  refine g_heap e39 ?_
  refine g_aload_n C0 0 d_Log_add_42 rfl rfl ?_
  refine g_aload_n C0 0 d_Log_add_43 rfl rfl ?_
  refine g_geti C0 CK_5 2 (by decide) t_256 0 rfl rfl d_Log_add_44 ?_
  refine g_iconst C0 (v := 1) d_Log_add_47 (by decide) ?_
  refine g_iadd C0 d_Log_add_48 ?_
  refine g_bipush C0 (v := 50) d_Log_add_49 (by decide) ?_
  refine g_min C0 t_800 ⟨Nat.le_of_ble_eq_true rfl, Nat.le_of_ble_eq_true rfl, Nat.zero_le _, Nat.zero_le _⟩ d_Log_add_51 ?_
  obtain ⟨h54, e54, hE⟩ := nm_some hE
  refine g_puti C0 CK_5 CT_5 2 (by decide) t_256 rfl (by decide +kernel) nd_Log 0 rfl rfl d_Log_add_54 ?_
  refine g_heap e54 ?_
  obtain rfl := Option.some.inj hE
  exact g_vret C0 hr d_Log_add_57
theorem w_Log_add {p : Program} {l : Launch} {e : Env} {s : State} {m : MethodId} {args : Array Value} {below : List Frame} {meth : Method} {c : Code} {K : KT} {A : Nat → Prop} (C0 : Cx p s m args meth c prog_7_method_2_code "CanoeSides$Log" 2 K A) (hr : meth.sig.returnType = (Option.none : Option Jvm.ClassFile.FieldType)) {ad : Nat → Nat} (a0 : Int32) (h : Hp) {res : Hp} (hE : K_Log_add a0 h = some res) : G p l e rm_Log_add s m args below meth c K A WLog 2 0 0 (QV s args below K A WLog 0 0 ad res) 0 [(0, .ref (ad 35)), (1, .int a0)] [] ad h := by
  unfold K_Log_add at hE
  refine g_aload_n C0 0 d_Log_add_0 rfl rfl ?_
  refine g_geti C0 CK_5 1 (by decide) t_255 0 rfl rfl d_Log_add_1 ?_
  have hB := ite_some hE
  refine g_if_lt C0 (tgt := 29) d_Log_add_4 (by decide) (fun c_ => ?_) (fun c_ => ?_)
  · replace hE := hB.1 c_
    refine g_sub [0] (L' := [(0, .ref (ad 35))]) rfl ?_
    exact w_Log_add_J29 C0 hr h hE
  · replace hE := hB.2 c_
    refine g_aload_n C0 0 d_Log_add_7 rfl rfl ?_
    refine g_geti C0 CK_5 1 (by decide) t_255 0 rfl rfl d_Log_add_8 ?_
    refine g_aload_n C0 0 d_Log_add_11 rfl rfl ?_
    refine g_getr C0 CK_5 0 (by decide) t_254 0 rfl rfl d_Log_add_12 ?_
    refine g_alen C0 1 rfl rfl (v := 50) (by decide) d_Log_add_15 ?_
    have hB := ite_some hE
    refine g_icmp_ge C0 (tgt := 29) d_Log_add_16 (by decide) (fun c_ => ?_) (fun c_ => ?_)
    · replace hE := hB.1 c_
      refine g_sub [0] (L' := [(0, .ref (ad 35))]) rfl ?_
      exact w_Log_add_J29 C0 hr h hE
    · replace hE := hB.2 c_
      refine g_aload_n C0 0 d_Log_add_19 rfl rfl ?_
      refine g_getr C0 CK_5 0 (by decide) t_254 0 rfl rfl d_Log_add_20 ?_
      refine g_aload_n C0 0 d_Log_add_23 rfl rfl ?_
      refine g_geti C0 CK_5 1 (by decide) t_255 0 rfl rfl d_Log_add_24 ?_
      refine g_iload_n C0 1 d_Log_add_27 rfl rfl ?_
      obtain ⟨q28, hE⟩ := sA_some hE
      obtain ⟨h28, e28, hE⟩ := nm_some hE
      refine g_iast C0 1 rfl nd_Log q28 d_Log_add_28 ?_
      refine g_heap e28 ?_
      refine g_sub [0] (L' := [(0, .ref (ad 35))]) rfl ?_
      exact w_Log_add_J29 C0 hr h28 hE
theorem m_Log_add (l : Launch) (K : KT) (ad : Nat → Nat) (h : Hp) (a0 : Int32) {res : Hp} (hE : K_Log_add a0 h = some res) : ConV l y_Log_add prog_7_method_2_code 2 (Option.none : Option Jvm.ClassFile.FieldType) rm_Log_add K WLog ad h [.ref (ad 35), .int a0] res := fun sz =>
  con_start [(0, .ref (ad 35)), (1, .int a0)] (by decide +kernel) rfl (Nat.le_of_ble_eq_true rfl) (fun p e s m args below meth c C0 hr hnm hsz => w_Log_add C0 hr a0 h hE)
abbrev y_Log_takeBack : MethodName := ⟨"CanoeSides$Log", "takeBack", "(I)I"⟩
abbrev rm_Log_takeBack : Room := { frames := 1, cells := 0, slots := 0, locals := 22 }
theorem cd_Log_takeBack : cwd y_Log_takeBack 1 := by decide +kernel
theorem d_Log_takeBack_0 : decode prog_7_method_3_code 0 = .ok (.aload_n 0, 1) := by decide +kernel
theorem d_Log_takeBack_1 : decode prog_7_method_3_code 1 = .ok (.aload_n 0, 1) := by decide +kernel
theorem d_Log_takeBack_2 : decode prog_7_method_3_code 2 = .ok (.getfield 15, 3) := by decide +kernel
theorem d_Log_takeBack_5 : decode prog_7_method_3_code 5 = .ok (.iload_n 1, 1) := by decide +kernel
theorem d_Log_takeBack_6 : decode prog_7_method_3_code 6 = .ok (.isub, 1) := by decide +kernel
theorem d_Log_takeBack_7 : decode prog_7_method_3_code 7 = .ok (.bipush 50, 2) := by decide +kernel
theorem d_Log_takeBack_9 : decode prog_7_method_3_code 9 = .ok (.invokestatic 28, 3) := by decide +kernel
theorem d_Log_takeBack_12 : decode prog_7_method_3_code 12 = .ok (.putfield 15, 3) := by decide +kernel
theorem d_Log_takeBack_15 : decode prog_7_method_3_code 15 = .ok (.aload_n 0, 1) := by decide +kernel
theorem d_Log_takeBack_16 : decode prog_7_method_3_code 16 = .ok (.dup, 1) := by decide +kernel
theorem d_Log_takeBack_17 : decode prog_7_method_3_code 17 = .ok (.getfield 19, 3) := by decide +kernel
theorem d_Log_takeBack_20 : decode prog_7_method_3_code 20 = .ok (.iload_n 1, 1) := by decide +kernel
theorem d_Log_takeBack_21 : decode prog_7_method_3_code 21 = .ok (.isub, 1) := by decide +kernel
theorem d_Log_takeBack_22 : decode prog_7_method_3_code 22 = .ok (.putfield 19, 3) := by decide +kernel
theorem d_Log_takeBack_25 : decode prog_7_method_3_code 25 = .ok (.aload_n 0, 1) := by decide +kernel
theorem d_Log_takeBack_26 : decode prog_7_method_3_code 26 = .ok (.getfield 15, 3) := by decide +kernel
theorem d_Log_takeBack_29 : decode prog_7_method_3_code 29 = .ok (.ifCond .lt 27, 3) := by decide +kernel
theorem d_Log_takeBack_32 : decode prog_7_method_3_code 32 = .ok (.aload_n 0, 1) := by decide +kernel
theorem d_Log_takeBack_33 : decode prog_7_method_3_code 33 = .ok (.getfield 15, 3) := by decide +kernel
theorem d_Log_takeBack_36 : decode prog_7_method_3_code 36 = .ok (.aload_n 0, 1) := by decide +kernel
theorem d_Log_takeBack_37 : decode prog_7_method_3_code 37 = .ok (.getfield 9, 3) := by decide +kernel
theorem d_Log_takeBack_40 : decode prog_7_method_3_code 40 = .ok (.arraylength, 1) := by decide +kernel
theorem d_Log_takeBack_41 : decode prog_7_method_3_code 41 = .ok (.if_icmp .ge 15, 3) := by decide +kernel
theorem d_Log_takeBack_44 : decode prog_7_method_3_code 44 = .ok (.aload_n 0, 1) := by decide +kernel
theorem d_Log_takeBack_45 : decode prog_7_method_3_code 45 = .ok (.getfield 9, 3) := by decide +kernel
theorem d_Log_takeBack_48 : decode prog_7_method_3_code 48 = .ok (.aload_n 0, 1) := by decide +kernel
theorem d_Log_takeBack_49 : decode prog_7_method_3_code 49 = .ok (.getfield 15, 3) := by decide +kernel
theorem d_Log_takeBack_52 : decode prog_7_method_3_code 52 = .ok (.iaload, 1) := by decide +kernel
theorem d_Log_takeBack_53 : decode prog_7_method_3_code 53 = .ok (.goto 4, 3) := by decide +kernel
theorem d_Log_takeBack_56 : decode prog_7_method_3_code 56 = .ok (.iconst 0, 1) := by decide +kernel
theorem d_Log_takeBack_57 : decode prog_7_method_3_code 57 = .ok (.ireturn, 1) := by decide +kernel
theorem w_Log_takeBack {p : Program} {l : Launch} {e : Env} {s : State} {m : MethodId} {args : Array Value} {below : List Frame} {meth : Method} {c : Code} {K : KT} {A : Nat → Prop} (C0 : Cx p s m args meth c prog_7_method_3_code "CanoeSides$Log" 2 K A) (hr : meth.sig.returnType = (Option.some Jvm.ClassFile.FieldType.int)) {ad : Nat → Nat} (a0 : Int32) (h : Hp) {res : Int32 × Hp} (hE : K_Log_takeBack a0 h = some res) : G p l e rm_Log_takeBack s m args below meth c K A WLog 2 0 0 (QI s args below K A WLog 0 0 ad res.1 res.2) 0 [(0, .ref (ad 35)), (1, .int a0)] [] ad h := by
  unfold K_Log_takeBack at hE
  refine g_aload_n C0 0 d_Log_takeBack_0 rfl rfl ?_
  refine g_aload_n C0 0 d_Log_takeBack_1 rfl rfl ?_
  refine g_geti C0 CK_5 1 (by decide) t_255 0 rfl rfl d_Log_takeBack_2 ?_
  refine g_iload_n C0 1 d_Log_takeBack_5 rfl rfl ?_
  refine g_isub C0 d_Log_takeBack_6 ?_
  refine g_bipush C0 (v := 50) d_Log_takeBack_7 (by decide) ?_
  obtain ⟨v9, z9, hE⟩ := bd_some hE
  refine g_calliP C0 nd_Log [] rfl (sb_E_Log) (runS C0 (m_JMath_floorMod l K ad h ((h 35 1) - a0) 50 z9) 2 ⟨t_818, t_819, t_96, t_820⟩ cd_JMath_floorMod (by decide) (sb_E_Log) nd_E rfl rfl (Nat.le_of_ble_eq_true rfl) d_Log_takeBack_9) ?_
  obtain ⟨h12, e12, hE⟩ := nm_some hE
  refine g_puti C0 CK_5 CT_5 1 (by decide) t_255 rfl (by decide +kernel) nd_Log 0 rfl rfl d_Log_takeBack_12 ?_
  refine g_heap e12 ?_
  refine g_aload_n C0 0 d_Log_takeBack_15 rfl rfl ?_
  refine g_dup C0 d_Log_takeBack_16 rfl ?_
  refine g_geti C0 CK_5 2 (by decide) t_256 0 rfl rfl d_Log_takeBack_17 ?_
  refine g_iload_n C0 1 d_Log_takeBack_20 rfl rfl ?_
  refine g_isub C0 d_Log_takeBack_21 ?_
  obtain ⟨h22, e22, hE⟩ := nm_some hE
  refine g_puti C0 CK_5 CT_5 2 (by decide) t_256 rfl (by decide +kernel) nd_Log 0 rfl rfl d_Log_takeBack_22 ?_
  refine g_heap e22 ?_
  refine g_aload_n C0 0 d_Log_takeBack_25 rfl rfl ?_
  refine g_geti C0 CK_5 1 (by decide) t_255 0 rfl rfl d_Log_takeBack_26 ?_
  have hB := ite_some hE
  refine g_if_lt C0 (tgt := 56) d_Log_takeBack_29 (by decide) (fun c_ => ?_) (fun c_ => ?_)
  · replace hE := hB.1 c_
    refine g_iconst C0 (v := 0) d_Log_takeBack_56 (by decide) ?_
    obtain rfl := Option.some.inj hE
    exact g_iret C0 hr d_Log_takeBack_57
  · replace hE := hB.2 c_
    refine g_aload_n C0 0 d_Log_takeBack_32 rfl rfl ?_
    refine g_geti C0 CK_5 1 (by decide) t_255 0 rfl rfl d_Log_takeBack_33 ?_
    refine g_aload_n C0 0 d_Log_takeBack_36 rfl rfl ?_
    refine g_getr C0 CK_5 0 (by decide) t_254 0 rfl rfl d_Log_takeBack_37 ?_
    refine g_alen C0 1 rfl rfl (v := 50) (by decide) d_Log_takeBack_40 ?_
    have hB := ite_some hE
    refine g_icmp_ge C0 (tgt := 56) d_Log_takeBack_41 (by decide) (fun c_ => ?_) (fun c_ => ?_)
    · replace hE := hB.1 c_
      refine g_iconst C0 (v := 0) d_Log_takeBack_56 (by decide) ?_
      obtain rfl := Option.some.inj hE
      exact g_iret C0 hr d_Log_takeBack_57
    · replace hE := hB.2 c_
      refine g_aload_n C0 0 d_Log_takeBack_44 rfl rfl ?_
      refine g_getr C0 CK_5 0 (by decide) t_254 0 rfl rfl d_Log_takeBack_45 ?_
      refine g_aload_n C0 0 d_Log_takeBack_48 rfl rfl ?_
      refine g_geti C0 CK_5 1 (by decide) t_255 0 rfl rfl d_Log_takeBack_49 ?_
      obtain ⟨q52, v52, e52, hE⟩ := gA_some hE
      refine g_iald C0 1 rfl q52 d_Log_takeBack_52 ?_
      refine g_top e52 ?_
      refine g_goto C0 (tgt := 57) d_Log_takeBack_53 (by decide) ?_
      obtain rfl := Option.some.inj hE
      exact g_iret C0 hr d_Log_takeBack_57
theorem m_Log_takeBack (l : Launch) (K : KT) (ad : Nat → Nat) (h : Hp) (a0 : Int32) {res : Int32 × Hp} (hE : K_Log_takeBack a0 h = some res) : ConI l y_Log_takeBack prog_7_method_3_code 2 (Option.some Jvm.ClassFile.FieldType.int) rm_Log_takeBack K WLog ad h [.ref (ad 35), .int a0] res.1 res.2 := fun sz =>
  con_start [(0, .ref (ad 35)), (1, .int a0)] (by decide +kernel) rfl (Nat.le_of_ble_eq_true rfl) (fun p e s m args below meth c C0 hr hnm hsz => w_Log_takeBack C0 hr a0 h hE)
abbrev y_Log_forget : MethodName := ⟨"CanoeSides$Log", "forget", "()V"⟩
abbrev rm_Log_forget : Room := { frames := 0, cells := 0, slots := 0, locals := 0 }
theorem cd_Log_forget : cwd y_Log_forget 0 := by decide +kernel
theorem d_Log_forget_0 : decode prog_7_method_4_code 0 = .ok (.aload_n 0, 1) := by decide +kernel
theorem d_Log_forget_1 : decode prog_7_method_4_code 1 = .ok (.iconst 0, 1) := by decide +kernel
theorem d_Log_forget_2 : decode prog_7_method_4_code 2 = .ok (.putfield 19, 3) := by decide +kernel
theorem d_Log_forget_5 : decode prog_7_method_4_code 5 = .ok (.return_, 1) := by decide +kernel
theorem w_Log_forget {p : Program} {l : Launch} {e : Env} {s : State} {m : MethodId} {args : Array Value} {below : List Frame} {meth : Method} {c : Code} {K : KT} {A : Nat → Prop} (C0 : Cx p s m args meth c prog_7_method_4_code "CanoeSides$Log" 1 K A) (hr : meth.sig.returnType = (Option.none : Option Jvm.ClassFile.FieldType)) {ad : Nat → Nat} (h : Hp) {res : Hp} (hE : K_Log_forget h = some res) : G p l e rm_Log_forget s m args below meth c K A WLog 1 0 0 (QV s args below K A WLog 0 0 ad res) 0 [(0, .ref (ad 35))] [] ad h := by
  unfold K_Log_forget at hE
  refine g_aload_n C0 0 d_Log_forget_0 rfl rfl ?_
  refine g_iconst C0 (v := 0) d_Log_forget_1 (by decide) ?_
  obtain ⟨h2, e2, hE⟩ := nm_some hE
  refine g_puti C0 CK_5 CT_5 2 (by decide) t_256 rfl (by decide +kernel) nd_Log 0 rfl rfl d_Log_forget_2 ?_
  refine g_heap e2 ?_
  obtain rfl := Option.some.inj hE
  exact g_vret C0 hr d_Log_forget_5
theorem m_Log_forget (l : Launch) (K : KT) (ad : Nat → Nat) (h : Hp) {res : Hp} (hE : K_Log_forget h = some res) : ConV l y_Log_forget prog_7_method_4_code 1 (Option.none : Option Jvm.ClassFile.FieldType) rm_Log_forget K WLog ad h [.ref (ad 35)] res := fun sz =>
  con_start [(0, .ref (ad 35))] (by decide +kernel) rfl (Nat.le_of_ble_eq_true rfl) (fun p e s m args below meth c C0 hr hnm hsz => w_Log_forget C0 hr h hE)
abbrev y_Reader_skipBlanks : MethodName := ⟨"CanoeSides$Reader", "skipBlanks", "()V"⟩
abbrev rm_Reader_skipBlanks : Room := { frames := 0, cells := 0, slots := 0, locals := 0 }
theorem cd_Reader_skipBlanks : cwd y_Reader_skipBlanks 0 := by decide +kernel
theorem d_Reader_skipBlanks_0 : decode prog_8_method_14_code 0 = .ok (.aload_n 0, 1) := by decide +kernel
theorem d_Reader_skipBlanks_1 : decode prog_8_method_14_code 1 = .ok (.getfield 18, 3) := by decide +kernel
theorem d_Reader_skipBlanks_4 : decode prog_8_method_14_code 4 = .ok (.aload_n 0, 1) := by decide +kernel
theorem d_Reader_skipBlanks_5 : decode prog_8_method_14_code 5 = .ok (.getfield 44, 3) := by decide +kernel
theorem d_Reader_skipBlanks_8 : decode prog_8_method_14_code 8 = .ok (.if_icmp .ge 42, 3) := by decide +kernel
theorem d_Reader_skipBlanks_11 : decode prog_8_method_14_code 11 = .ok (.aload_n 0, 1) := by decide +kernel
theorem d_Reader_skipBlanks_12 : decode prog_8_method_14_code 12 = .ok (.getfield 18, 3) := by decide +kernel
theorem d_Reader_skipBlanks_15 : decode prog_8_method_14_code 15 = .ok (.aload_n 0, 1) := by decide +kernel
theorem d_Reader_skipBlanks_16 : decode prog_8_method_14_code 16 = .ok (.getfield 34, 3) := by decide +kernel
theorem d_Reader_skipBlanks_19 : decode prog_8_method_14_code 19 = .ok (.arraylength, 1) := by decide +kernel
theorem d_Reader_skipBlanks_20 : decode prog_8_method_14_code 20 = .ok (.if_icmp .ge 30, 3) := by decide +kernel
theorem d_Reader_skipBlanks_23 : decode prog_8_method_14_code 23 = .ok (.aload_n 0, 1) := by decide +kernel
theorem d_Reader_skipBlanks_24 : decode prog_8_method_14_code 24 = .ok (.getfield 34, 3) := by decide +kernel
theorem d_Reader_skipBlanks_27 : decode prog_8_method_14_code 27 = .ok (.aload_n 0, 1) := by decide +kernel
theorem d_Reader_skipBlanks_28 : decode prog_8_method_14_code 28 = .ok (.getfield 18, 3) := by decide +kernel
theorem d_Reader_skipBlanks_31 : decode prog_8_method_14_code 31 = .ok (.iaload, 1) := by decide +kernel
theorem d_Reader_skipBlanks_32 : decode prog_8_method_14_code 32 = .ok (.bipush 32, 2) := by decide +kernel
theorem d_Reader_skipBlanks_34 : decode prog_8_method_14_code 34 = .ok (.if_icmp .ne 16, 3) := by decide +kernel
theorem d_Reader_skipBlanks_37 : decode prog_8_method_14_code 37 = .ok (.aload_n 0, 1) := by decide +kernel
theorem d_Reader_skipBlanks_38 : decode prog_8_method_14_code 38 = .ok (.dup, 1) := by decide +kernel
theorem d_Reader_skipBlanks_39 : decode prog_8_method_14_code 39 = .ok (.getfield 18, 3) := by decide +kernel
theorem d_Reader_skipBlanks_42 : decode prog_8_method_14_code 42 = .ok (.iconst 1, 1) := by decide +kernel
theorem d_Reader_skipBlanks_43 : decode prog_8_method_14_code 43 = .ok (.iadd, 1) := by decide +kernel
theorem d_Reader_skipBlanks_44 : decode prog_8_method_14_code 44 = .ok (.putfield 18, 3) := by decide +kernel
theorem d_Reader_skipBlanks_47 : decode prog_8_method_14_code 47 = .ok (.goto (-47), 3) := by decide +kernel
theorem d_Reader_skipBlanks_50 : decode prog_8_method_14_code 50 = .ok (.return_, 1) := by decide +kernel
theorem w_Reader_skipBlanks_L0 {p : Program} {l : Launch} {e : Env} {s : State} {m : MethodId} {args : Array Value} {below : List Frame} {meth : Method} {c : Code} {K : KT} {A : Nat → Prop} {Q : State → Prop} (C0 : Cx p s m args meth c prog_8_method_14_code "CanoeSides$Reader" 1 K A) (hr : meth.sig.returnType = (Option.none : Option Jvm.ClassFile.FieldType)) {ad : Nat → Nat} (N : Nat) (h : Hp) {x_ : (Hp) ⊕ (Hp)} (hE : K_Reader_skipBlanks_L0 N h = some x_) (hk1 : ∀ z_, x_ = .inl z_ → G p l e rm_Reader_skipBlanks s m args below meth c K A WReader 1 0 0 Q 0 [(0, .ref (ad 70))] [] ad z_) (hk3 : ∀ z_, x_ = .inr z_ → G p l e rm_Reader_skipBlanks s m args below meth c K A WReader 1 0 0 Q 50 [] [] ad z_) : G p l e rm_Reader_skipBlanks s m args below meth c K A WReader 1 0 0 Q 0 [(0, .ref (ad 70))] [] ad h := by
  unfold K_Reader_skipBlanks_L0 at hE
  refine g_aload_n C0 0 d_Reader_skipBlanks_0 rfl rfl ?_
  refine g_geti C0 CK_6 3 (by decide) t_521 0 rfl rfl d_Reader_skipBlanks_1 ?_
  refine g_aload_n C0 0 d_Reader_skipBlanks_4 rfl rfl ?_
  refine g_geti C0 CK_6 1 (by decide) t_518 0 rfl rfl d_Reader_skipBlanks_5 ?_
  have hB := ite_some hE
  refine g_icmp_ge C0 (tgt := 50) d_Reader_skipBlanks_8 (by decide) (fun c_ => ?_) (fun c_ => ?_)
  · replace hE := hB.1 c_
    refine g_sub [] (L' := []) rfl ?_
    exact hk3 _ (Option.some.inj hE).symm
  · replace hE := hB.2 c_
    refine g_aload_n C0 0 d_Reader_skipBlanks_11 rfl rfl ?_
    refine g_geti C0 CK_6 3 (by decide) t_521 0 rfl rfl d_Reader_skipBlanks_12 ?_
    refine g_aload_n C0 0 d_Reader_skipBlanks_15 rfl rfl ?_
    refine g_getr C0 CK_6 0 (by decide) t_517 0 rfl rfl d_Reader_skipBlanks_16 ?_
    refine g_alen C0 1 rfl rfl (v := 250) (by decide) d_Reader_skipBlanks_19 ?_
    have hB := ite_some hE
    refine g_icmp_ge C0 (tgt := 50) d_Reader_skipBlanks_20 (by decide) (fun c_ => ?_) (fun c_ => ?_)
    · replace hE := hB.1 c_
      refine g_sub [] (L' := []) rfl ?_
      exact hk3 _ (Option.some.inj hE).symm
    · replace hE := hB.2 c_
      refine g_aload_n C0 0 d_Reader_skipBlanks_23 rfl rfl ?_
      refine g_getr C0 CK_6 0 (by decide) t_517 0 rfl rfl d_Reader_skipBlanks_24 ?_
      refine g_aload_n C0 0 d_Reader_skipBlanks_27 rfl rfl ?_
      refine g_geti C0 CK_6 3 (by decide) t_521 0 rfl rfl d_Reader_skipBlanks_28 ?_
      obtain ⟨q31, v31, e31, hE⟩ := gA_some hE
      refine g_iald C0 1 rfl q31 d_Reader_skipBlanks_31 ?_
      refine g_top e31 ?_
      refine g_bipush C0 (v := 32) d_Reader_skipBlanks_32 (by decide) ?_
      have hB := ite_some hE
      refine g_icmp_ne C0 (tgt := 50) d_Reader_skipBlanks_34 (by decide) (fun c_ => ?_) (fun c_ => ?_)
      · replace hE := hB.2 c_
        refine g_sub [] (L' := []) rfl ?_
        exact hk3 _ (Option.some.inj hE).symm
      · replace hE := hB.1 c_
        refine g_aload_n C0 0 d_Reader_skipBlanks_37 rfl rfl ?_
        refine g_dup C0 d_Reader_skipBlanks_38 rfl ?_
        refine g_geti C0 CK_6 3 (by decide) t_521 0 rfl rfl d_Reader_skipBlanks_39 ?_
        refine g_iconst C0 (v := 1) d_Reader_skipBlanks_42 (by decide) ?_
        refine g_iadd C0 d_Reader_skipBlanks_43 ?_
        obtain ⟨h44, e44, hE⟩ := nm_some hE
        refine g_puti C0 CK_6 CT_6 3 (by decide) t_521 rfl (by decide +kernel) nd_Reader 0 rfl rfl d_Reader_skipBlanks_44 ?_
        refine g_heap e44 ?_
        refine g_goto C0 (tgt := 0) d_Reader_skipBlanks_47 (by decide) ?_
        exact hk1 _ (Option.some.inj hE).symm
theorem w_Reader_skipBlanks {p : Program} {l : Launch} {e : Env} {s : State} {m : MethodId} {args : Array Value} {below : List Frame} {meth : Method} {c : Code} {K : KT} {A : Nat → Prop} (C0 : Cx p s m args meth c prog_8_method_14_code "CanoeSides$Reader" 1 K A) (hr : meth.sig.returnType = (Option.none : Option Jvm.ClassFile.FieldType)) {ad : Nat → Nat} (N : Nat) (h : Hp) {res : Hp} (hE : K_Reader_skipBlanks N h = some res) : G p l e rm_Reader_skipBlanks s m args below meth c K A WReader 1 0 0 (QV s args below K A WReader 0 0 ad res) 0 [(0, .ref (ad 70))] [] ad h := by
  unfold K_Reader_skipBlanks at hE
  obtain ⟨t0, z0, hE⟩ := bd_some hE
  refine loopG (fun z_ : Hp => K_Reader_skipBlanks_L0 N z_) (fun z_ : Hp => G p l e rm_Reader_skipBlanks s m args below meth c K A WReader 1 0 0 _ 0 [(0, .ref (ad 70))] [] ad z_) (fun z_ : Hp => G p l e rm_Reader_skipBlanks s m args below meth c K A WReader 1 0 0 _ 50 [] [] ad z_) (fun z_ x_ hz k1 k2 => w_Reader_skipBlanks_L0 C0 hr N z_ hz k1 k2) _ _ _ z0 ?_
  try dsimp only
  obtain rfl := Option.some.inj hE
  exact g_vret C0 hr d_Reader_skipBlanks_50
theorem m_Reader_skipBlanks (l : Launch) (K : KT) (ad : Nat → Nat) (h : Hp) (N : Nat) {res : Hp} (hE : K_Reader_skipBlanks N h = some res) : ConV l y_Reader_skipBlanks prog_8_method_14_code 1 (Option.none : Option Jvm.ClassFile.FieldType) rm_Reader_skipBlanks K WReader ad h [.ref (ad 70)] res := fun sz =>
  con_start [(0, .ref (ad 70))] (by decide +kernel) rfl (Nat.le_of_ble_eq_true rfl) (fun p e s m args below meth c C0 hr hnm hsz => w_Reader_skipBlanks C0 hr N h hE)
abbrev y_Reader_letterHere : MethodName := ⟨"CanoeSides$Reader", "letterHere", "()I"⟩
abbrev rm_Reader_letterHere : Room := { frames := 0, cells := 0, slots := 0, locals := 0 }
theorem cd_Reader_letterHere : cwd y_Reader_letterHere 0 := by decide +kernel
theorem d_Reader_letterHere_0 : decode prog_8_method_15_code 0 = .ok (.aload_n 0, 1) := by decide +kernel
theorem d_Reader_letterHere_1 : decode prog_8_method_15_code 1 = .ok (.getfield 18, 3) := by decide +kernel
theorem d_Reader_letterHere_4 : decode prog_8_method_15_code 4 = .ok (.ifCond .lt 38, 3) := by decide +kernel
theorem d_Reader_letterHere_7 : decode prog_8_method_15_code 7 = .ok (.aload_n 0, 1) := by decide +kernel
theorem d_Reader_letterHere_8 : decode prog_8_method_15_code 8 = .ok (.getfield 18, 3) := by decide +kernel
theorem d_Reader_letterHere_11 : decode prog_8_method_15_code 11 = .ok (.aload_n 0, 1) := by decide +kernel
theorem d_Reader_letterHere_12 : decode prog_8_method_15_code 12 = .ok (.getfield 44, 3) := by decide +kernel
theorem d_Reader_letterHere_15 : decode prog_8_method_15_code 15 = .ok (.if_icmp .ge 27, 3) := by decide +kernel
theorem d_Reader_letterHere_18 : decode prog_8_method_15_code 18 = .ok (.aload_n 0, 1) := by decide +kernel
theorem d_Reader_letterHere_19 : decode prog_8_method_15_code 19 = .ok (.getfield 18, 3) := by decide +kernel
theorem d_Reader_letterHere_22 : decode prog_8_method_15_code 22 = .ok (.aload_n 0, 1) := by decide +kernel
theorem d_Reader_letterHere_23 : decode prog_8_method_15_code 23 = .ok (.getfield 34, 3) := by decide +kernel
theorem d_Reader_letterHere_26 : decode prog_8_method_15_code 26 = .ok (.arraylength, 1) := by decide +kernel
theorem d_Reader_letterHere_27 : decode prog_8_method_15_code 27 = .ok (.if_icmp .ge 15, 3) := by decide +kernel
theorem d_Reader_letterHere_30 : decode prog_8_method_15_code 30 = .ok (.aload_n 0, 1) := by decide +kernel
theorem d_Reader_letterHere_31 : decode prog_8_method_15_code 31 = .ok (.getfield 34, 3) := by decide +kernel
theorem d_Reader_letterHere_34 : decode prog_8_method_15_code 34 = .ok (.aload_n 0, 1) := by decide +kernel
theorem d_Reader_letterHere_35 : decode prog_8_method_15_code 35 = .ok (.getfield 18, 3) := by decide +kernel
theorem d_Reader_letterHere_38 : decode prog_8_method_15_code 38 = .ok (.iaload, 1) := by decide +kernel
theorem d_Reader_letterHere_39 : decode prog_8_method_15_code 39 = .ok (.goto 6, 3) := by decide +kernel
theorem d_Reader_letterHere_42 : decode prog_8_method_15_code 42 = .ok (.sipush 256, 3) := by decide +kernel
theorem d_Reader_letterHere_45 : decode prog_8_method_15_code 45 = .ok (.ireturn, 1) := by decide +kernel
theorem w_Reader_letterHere {p : Program} {l : Launch} {e : Env} {s : State} {m : MethodId} {args : Array Value} {below : List Frame} {meth : Method} {c : Code} {K : KT} {A : Nat → Prop} (C0 : Cx p s m args meth c prog_8_method_15_code "CanoeSides$Reader" 1 K A) (hr : meth.sig.returnType = (Option.some Jvm.ClassFile.FieldType.int)) {ad : Nat → Nat} (h : Hp) {res : Int32} (hE : K_Reader_letterHere h = some res) : G p l e rm_Reader_letterHere s m args below meth c K A WReader 1 0 0 (QI s args below K A WReader 0 0 ad res h) 0 [(0, .ref (ad 70))] [] ad h := by
  unfold K_Reader_letterHere at hE
  refine g_aload_n C0 0 d_Reader_letterHere_0 rfl rfl ?_
  refine g_geti C0 CK_6 3 (by decide) t_521 0 rfl rfl d_Reader_letterHere_1 ?_
  have hB := ite_some hE
  refine g_if_lt C0 (tgt := 42) d_Reader_letterHere_4 (by decide) (fun c_ => ?_) (fun c_ => ?_)
  · replace hE := hB.1 c_
    refine g_sipush C0 (v := 256) d_Reader_letterHere_42 (by decide) ?_
    obtain rfl := Option.some.inj hE
    exact g_iret C0 hr d_Reader_letterHere_45
  · replace hE := hB.2 c_
    refine g_aload_n C0 0 d_Reader_letterHere_7 rfl rfl ?_
    refine g_geti C0 CK_6 3 (by decide) t_521 0 rfl rfl d_Reader_letterHere_8 ?_
    refine g_aload_n C0 0 d_Reader_letterHere_11 rfl rfl ?_
    refine g_geti C0 CK_6 1 (by decide) t_518 0 rfl rfl d_Reader_letterHere_12 ?_
    have hB := ite_some hE
    refine g_icmp_ge C0 (tgt := 42) d_Reader_letterHere_15 (by decide) (fun c_ => ?_) (fun c_ => ?_)
    · replace hE := hB.1 c_
      refine g_sipush C0 (v := 256) d_Reader_letterHere_42 (by decide) ?_
      obtain rfl := Option.some.inj hE
      exact g_iret C0 hr d_Reader_letterHere_45
    · replace hE := hB.2 c_
      refine g_aload_n C0 0 d_Reader_letterHere_18 rfl rfl ?_
      refine g_geti C0 CK_6 3 (by decide) t_521 0 rfl rfl d_Reader_letterHere_19 ?_
      refine g_aload_n C0 0 d_Reader_letterHere_22 rfl rfl ?_
      refine g_getr C0 CK_6 0 (by decide) t_517 0 rfl rfl d_Reader_letterHere_23 ?_
      refine g_alen C0 1 rfl rfl (v := 250) (by decide) d_Reader_letterHere_26 ?_
      have hB := ite_some hE
      refine g_icmp_ge C0 (tgt := 42) d_Reader_letterHere_27 (by decide) (fun c_ => ?_) (fun c_ => ?_)
      · replace hE := hB.1 c_
        refine g_sipush C0 (v := 256) d_Reader_letterHere_42 (by decide) ?_
        obtain rfl := Option.some.inj hE
        exact g_iret C0 hr d_Reader_letterHere_45
      · replace hE := hB.2 c_
        refine g_aload_n C0 0 d_Reader_letterHere_30 rfl rfl ?_
        refine g_getr C0 CK_6 0 (by decide) t_517 0 rfl rfl d_Reader_letterHere_31 ?_
        refine g_aload_n C0 0 d_Reader_letterHere_34 rfl rfl ?_
        refine g_geti C0 CK_6 3 (by decide) t_521 0 rfl rfl d_Reader_letterHere_35 ?_
        obtain ⟨q38, v38, e38, hE⟩ := gA_some hE
        refine g_iald C0 1 rfl q38 d_Reader_letterHere_38 ?_
        refine g_top e38 ?_
        refine g_goto C0 (tgt := 45) d_Reader_letterHere_39 (by decide) ?_
        obtain rfl := Option.some.inj hE
        exact g_iret C0 hr d_Reader_letterHere_45
theorem m_Reader_letterHere (l : Launch) (K : KT) (ad : Nat → Nat) (h : Hp) {res : Int32} (hE : K_Reader_letterHere h = some res) : ConI l y_Reader_letterHere prog_8_method_15_code 1 (Option.some Jvm.ClassFile.FieldType.int) rm_Reader_letterHere K WReader ad h [.ref (ad 70)] res h := fun sz =>
  con_start [(0, .ref (ad 70))] (by decide +kernel) rfl (Nat.le_of_ble_eq_true rfl) (fun p e s m args below meth c C0 hr hnm hsz => w_Reader_letterHere C0 hr h hE)
abbrev y_Reader_fail : MethodName := ⟨"CanoeSides$Reader", "fail", "(II)V"⟩
abbrev rm_Reader_fail : Room := { frames := 0, cells := 0, slots := 0, locals := 0 }
theorem cd_Reader_fail : cwd y_Reader_fail 2 := by decide +kernel
theorem d_Reader_fail_0 : decode prog_8_method_17_code 0 = .ok (.aload_n 0, 1) := by decide +kernel
theorem d_Reader_fail_1 : decode prog_8_method_17_code 1 = .ok (.getfield 28, 3) := by decide +kernel
theorem d_Reader_fail_4 : decode prog_8_method_17_code 4 = .ok (.ifCond .ne 13, 3) := by decide +kernel
theorem d_Reader_fail_7 : decode prog_8_method_17_code 7 = .ok (.aload_n 0, 1) := by decide +kernel
theorem d_Reader_fail_8 : decode prog_8_method_17_code 8 = .ok (.iload_n 1, 1) := by decide +kernel
theorem d_Reader_fail_9 : decode prog_8_method_17_code 9 = .ok (.putfield 28, 3) := by decide +kernel
theorem d_Reader_fail_12 : decode prog_8_method_17_code 12 = .ok (.aload_n 0, 1) := by decide +kernel
theorem d_Reader_fail_13 : decode prog_8_method_17_code 13 = .ok (.iload_n 2, 1) := by decide +kernel
theorem d_Reader_fail_14 : decode prog_8_method_17_code 14 = .ok (.putfield 31, 3) := by decide +kernel
theorem d_Reader_fail_17 : decode prog_8_method_17_code 17 = .ok (.return_, 1) := by decide +kernel
theorem w_Reader_fail {p : Program} {l : Launch} {e : Env} {s : State} {m : MethodId} {args : Array Value} {below : List Frame} {meth : Method} {c : Code} {K : KT} {A : Nat → Prop} (C0 : Cx p s m args meth c prog_8_method_17_code "CanoeSides$Reader" 3 K A) (hr : meth.sig.returnType = (Option.none : Option Jvm.ClassFile.FieldType)) {ad : Nat → Nat} (a0 : Int32) (b0 : Int32) (h : Hp) {res : Hp} (hE : K_Reader_fail a0 b0 h = some res) : G p l e rm_Reader_fail s m args below meth c K A WReader 3 0 0 (QV s args below K A WReader 0 0 ad res) 0 [(0, .ref (ad 70)), (1, .int a0), (2, .int b0)] [] ad h := by
  unfold K_Reader_fail at hE
  refine g_aload_n C0 0 d_Reader_fail_0 rfl rfl ?_
  refine g_geti C0 CK_6 6 (by decide) t_524 0 rfl rfl d_Reader_fail_1 ?_
  have hB := ite_some hE
  refine g_if_ne C0 (tgt := 17) d_Reader_fail_4 (by decide) (fun c_ => ?_) (fun c_ => ?_)
  · replace hE := hB.2 c_
    obtain rfl := Option.some.inj hE
    exact g_vret C0 hr d_Reader_fail_17
  · replace hE := hB.1 c_
    refine g_aload_n C0 0 d_Reader_fail_7 rfl rfl ?_
    refine g_iload_n C0 1 d_Reader_fail_8 rfl rfl ?_
    obtain ⟨h9, e9, hE⟩ := nm_some hE
    refine g_puti C0 CK_6 CT_6 6 (by decide) t_524 rfl (by decide +kernel) nd_Reader 0 rfl rfl d_Reader_fail_9 ?_
    refine g_heap e9 ?_
    refine g_aload_n C0 0 d_Reader_fail_12 rfl rfl ?_
    refine g_iload_n C0 2 d_Reader_fail_13 rfl rfl ?_
    obtain ⟨h14, e14, hE⟩ := nm_some hE
    refine g_puti C0 CK_6 CT_6 7 (by decide) t_526 rfl (by decide +kernel) nd_Reader 0 rfl rfl d_Reader_fail_14 ?_
    refine g_heap e14 ?_
    obtain rfl := Option.some.inj hE
    exact g_vret C0 hr d_Reader_fail_17
theorem m_Reader_fail (l : Launch) (K : KT) (ad : Nat → Nat) (h : Hp) (a0 : Int32) (b0 : Int32) {res : Hp} (hE : K_Reader_fail a0 b0 h = some res) : ConV l y_Reader_fail prog_8_method_17_code 3 (Option.none : Option Jvm.ClassFile.FieldType) rm_Reader_fail K WReader ad h [.ref (ad 70), .int a0, .int b0] res := fun sz =>
  con_start [(0, .ref (ad 70)), (1, .int a0), (2, .int b0)] (by decide +kernel) rfl (Nat.le_of_ble_eq_true rfl) (fun p e s m args below meth c C0 hr hnm hsz => w_Reader_fail C0 hr a0 b0 h hE)
abbrev y_Reader_isFigure : MethodName := ⟨"CanoeSides$Reader", "isFigure", "(I)Z"⟩
abbrev rm_Reader_isFigure : Room := { frames := 0, cells := 0, slots := 0, locals := 0 }
theorem cd_Reader_isFigure : cwd y_Reader_isFigure 1 := by decide +kernel
theorem d_Reader_isFigure_0 : decode prog_8_method_16_code 0 = .ok (.iload_n 0, 1) := by decide +kernel
theorem d_Reader_isFigure_1 : decode prog_8_method_16_code 1 = .ok (.bipush 48, 2) := by decide +kernel
theorem d_Reader_isFigure_3 : decode prog_8_method_16_code 3 = .ok (.if_icmp .lt 13, 3) := by decide +kernel
theorem d_Reader_isFigure_6 : decode prog_8_method_16_code 6 = .ok (.iload_n 0, 1) := by decide +kernel
theorem d_Reader_isFigure_7 : decode prog_8_method_16_code 7 = .ok (.bipush 57, 2) := by decide +kernel
theorem d_Reader_isFigure_9 : decode prog_8_method_16_code 9 = .ok (.if_icmp .gt 7, 3) := by decide +kernel
theorem d_Reader_isFigure_12 : decode prog_8_method_16_code 12 = .ok (.iconst 1, 1) := by decide +kernel
theorem d_Reader_isFigure_13 : decode prog_8_method_16_code 13 = .ok (.goto 4, 3) := by decide +kernel
theorem d_Reader_isFigure_16 : decode prog_8_method_16_code 16 = .ok (.iconst 0, 1) := by decide +kernel
theorem d_Reader_isFigure_17 : decode prog_8_method_16_code 17 = .ok (.ireturn, 1) := by decide +kernel
theorem w_Reader_isFigure {p : Program} {l : Launch} {e : Env} {s : State} {m : MethodId} {args : Array Value} {below : List Frame} {meth : Method} {c : Code} {K : KT} {A : Nat → Prop} (C0 : Cx p s m args meth c prog_8_method_16_code "CanoeSides$Reader" 1 K A) (hr : meth.sig.returnType = (Option.some Jvm.ClassFile.FieldType.boolean)) {ad : Nat → Nat} (a0 : Int32) (h : Hp) {res : Int32} (hE : K_Reader_isFigure a0 = some res) : G p l e rm_Reader_isFigure s m args below meth c K A WE 1 0 0 (QI s args below K A WE 0 0 ad res h) 0 [(0, .int a0)] [] ad h := by
  unfold K_Reader_isFigure at hE
  refine g_iload_n C0 0 d_Reader_isFigure_0 rfl rfl ?_
  refine g_bipush C0 (v := 48) d_Reader_isFigure_1 (by decide) ?_
  have hB := ite_some hE
  refine g_icmp_lt C0 (tgt := 16) d_Reader_isFigure_3 (by decide) (fun c_ => ?_) (fun c_ => ?_)
  · replace hE := hB.1 c_
    refine g_iconst C0 (v := 0) d_Reader_isFigure_16 (by decide) ?_
    obtain rfl := Option.some.inj hE
    exact g_zret C0 hr nz0 d_Reader_isFigure_17
  · replace hE := hB.2 c_
    refine g_iload_n C0 0 d_Reader_isFigure_6 rfl rfl ?_
    refine g_bipush C0 (v := 57) d_Reader_isFigure_7 (by decide) ?_
    have hB := ite_some hE
    refine g_icmp_gt C0 (tgt := 16) d_Reader_isFigure_9 (by decide) (fun c_ => ?_) (fun c_ => ?_)
    · replace hE := hB.1 c_
      refine g_iconst C0 (v := 0) d_Reader_isFigure_16 (by decide) ?_
      obtain rfl := Option.some.inj hE
      exact g_zret C0 hr nz0 d_Reader_isFigure_17
    · replace hE := hB.2 c_
      refine g_iconst C0 (v := 1) d_Reader_isFigure_12 (by decide) ?_
      refine g_goto C0 (tgt := 17) d_Reader_isFigure_13 (by decide) ?_
      obtain rfl := Option.some.inj hE
      exact g_zret C0 hr nz1 d_Reader_isFigure_17
theorem m_Reader_isFigure (l : Launch) (K : KT) (ad : Nat → Nat) (h : Hp) (a0 : Int32) {res : Int32} (hE : K_Reader_isFigure a0 = some res) : ConI l y_Reader_isFigure prog_8_method_16_code 1 (Option.some Jvm.ClassFile.FieldType.boolean) rm_Reader_isFigure K WE ad h [.int a0] res h := fun sz =>
  con_start [(0, .int a0)] (by decide +kernel) rfl (Nat.le_of_ble_eq_true rfl) (fun p e s m args below meth c C0 hr hnm hsz => w_Reader_isFigure C0 hr a0 h hE)
abbrev y_Reader_readNumber : MethodName := ⟨"CanoeSides$Reader", "readNumber", "(II)I"⟩
abbrev rm_Reader_readNumber : Room := { frames := 1, cells := 0, slots := 0, locals := 22 }
theorem cd_Reader_readNumber : cwd y_Reader_readNumber 2 := by decide +kernel
theorem d_Reader_readNumber_0 : decode prog_8_method_11_code 0 = .ok (.aload_n 0, 1) := by decide +kernel
theorem d_Reader_readNumber_1 : decode prog_8_method_11_code 1 = .ok (.invokevirtual 47, 3) := by decide +kernel
theorem d_Reader_readNumber_4 : decode prog_8_method_11_code 4 = .ok (.aload_n 0, 1) := by decide +kernel
theorem d_Reader_readNumber_5 : decode prog_8_method_11_code 5 = .ok (.aload_n 0, 1) := by decide +kernel
theorem d_Reader_readNumber_6 : decode prog_8_method_11_code 6 = .ok (.getfield 18, 3) := by decide +kernel
theorem d_Reader_readNumber_9 : decode prog_8_method_11_code 9 = .ok (.putfield 25, 3) := by decide +kernel
theorem d_Reader_readNumber_12 : decode prog_8_method_11_code 12 = .ok (.iconst 0, 1) := by decide +kernel
theorem d_Reader_readNumber_13 : decode prog_8_method_11_code 13 = .ok (.istore_n 3, 1) := by decide +kernel
theorem d_Reader_readNumber_14 : decode prog_8_method_11_code 14 = .ok (.aload_n 0, 1) := by decide +kernel
theorem d_Reader_readNumber_15 : decode prog_8_method_11_code 15 = .ok (.getfield 18, 3) := by decide +kernel
theorem d_Reader_readNumber_18 : decode prog_8_method_11_code 18 = .ok (.aload_n 0, 1) := by decide +kernel
theorem d_Reader_readNumber_19 : decode prog_8_method_11_code 19 = .ok (.getfield 44, 3) := by decide +kernel
theorem d_Reader_readNumber_22 : decode prog_8_method_11_code 22 = .ok (.if_icmp .ge 52, 3) := by decide +kernel
theorem d_Reader_readNumber_25 : decode prog_8_method_11_code 25 = .ok (.aload_n 0, 1) := by decide +kernel
theorem d_Reader_readNumber_26 : decode prog_8_method_11_code 26 = .ok (.invokevirtual 55, 3) := by decide +kernel
theorem d_Reader_readNumber_29 : decode prog_8_method_11_code 29 = .ok (.invokestatic 149, 3) := by decide +kernel
theorem d_Reader_readNumber_32 : decode prog_8_method_11_code 32 = .ok (.ifCond .eq 42, 3) := by decide +kernel
theorem d_Reader_readNumber_35 : decode prog_8_method_11_code 35 = .ok (.aload_n 0, 1) := by decide +kernel
theorem d_Reader_readNumber_36 : decode prog_8_method_11_code 36 = .ok (.getfield 18, 3) := by decide +kernel
theorem d_Reader_readNumber_39 : decode prog_8_method_11_code 39 = .ok (.aload_n 0, 1) := by decide +kernel
theorem d_Reader_readNumber_40 : decode prog_8_method_11_code 40 = .ok (.getfield 25, 3) := by decide +kernel
theorem d_Reader_readNumber_43 : decode prog_8_method_11_code 43 = .ok (.isub, 1) := by decide +kernel
theorem d_Reader_readNumber_44 : decode prog_8_method_11_code 44 = .ok (.iconst 3, 1) := by decide +kernel
theorem d_Reader_readNumber_45 : decode prog_8_method_11_code 45 = .ok (.if_icmp .ge 16, 3) := by decide +kernel
theorem d_Reader_readNumber_48 : decode prog_8_method_11_code 48 = .ok (.bipush 10, 2) := by decide +kernel
theorem d_Reader_readNumber_50 : decode prog_8_method_11_code 50 = .ok (.iload_n 3, 1) := by decide +kernel
theorem d_Reader_readNumber_51 : decode prog_8_method_11_code 51 = .ok (.imul, 1) := by decide +kernel
theorem d_Reader_readNumber_52 : decode prog_8_method_11_code 52 = .ok (.aload_n 0, 1) := by decide +kernel
theorem d_Reader_readNumber_53 : decode prog_8_method_11_code 53 = .ok (.invokevirtual 55, 3) := by decide +kernel
theorem d_Reader_readNumber_56 : decode prog_8_method_11_code 56 = .ok (.iadd, 1) := by decide +kernel
theorem d_Reader_readNumber_57 : decode prog_8_method_11_code 57 = .ok (.bipush 48, 2) := by decide +kernel
theorem d_Reader_readNumber_59 : decode prog_8_method_11_code 59 = .ok (.isub, 1) := by decide +kernel
theorem d_Reader_readNumber_60 : decode prog_8_method_11_code 60 = .ok (.istore_n 3, 1) := by decide +kernel
theorem d_Reader_readNumber_61 : decode prog_8_method_11_code 61 = .ok (.aload_n 0, 1) := by decide +kernel
theorem d_Reader_readNumber_62 : decode prog_8_method_11_code 62 = .ok (.dup, 1) := by decide +kernel
theorem d_Reader_readNumber_63 : decode prog_8_method_11_code 63 = .ok (.getfield 18, 3) := by decide +kernel
theorem d_Reader_readNumber_66 : decode prog_8_method_11_code 66 = .ok (.iconst 1, 1) := by decide +kernel
theorem d_Reader_readNumber_67 : decode prog_8_method_11_code 67 = .ok (.iadd, 1) := by decide +kernel
theorem d_Reader_readNumber_68 : decode prog_8_method_11_code 68 = .ok (.putfield 18, 3) := by decide +kernel
theorem d_Reader_readNumber_71 : decode prog_8_method_11_code 71 = .ok (.goto (-57), 3) := by decide +kernel
theorem d_Reader_readNumber_74 : decode prog_8_method_11_code 74 = .ok (.aload_n 0, 1) := by decide +kernel
theorem d_Reader_readNumber_75 : decode prog_8_method_11_code 75 = .ok (.getfield 18, 3) := by decide +kernel
theorem d_Reader_readNumber_78 : decode prog_8_method_11_code 78 = .ok (.aload_n 0, 1) := by decide +kernel
theorem d_Reader_readNumber_79 : decode prog_8_method_11_code 79 = .ok (.getfield 25, 3) := by decide +kernel
theorem d_Reader_readNumber_82 : decode prog_8_method_11_code 82 = .ok (.isub, 1) := by decide +kernel
theorem d_Reader_readNumber_83 : decode prog_8_method_11_code 83 = .ok (.istore 4, 2) := by decide +kernel
theorem d_Reader_readNumber_85 : decode prog_8_method_11_code 85 = .ok (.iload 4, 2) := by decide +kernel
theorem d_Reader_readNumber_87 : decode prog_8_method_11_code 87 = .ok (.ifCond .ne 15, 3) := by decide +kernel
theorem d_Reader_readNumber_90 : decode prog_8_method_11_code 90 = .ok (.aload_n 0, 1) := by decide +kernel
theorem d_Reader_readNumber_91 : decode prog_8_method_11_code 91 = .ok (.iconst 1, 1) := by decide +kernel
theorem d_Reader_readNumber_92 : decode prog_8_method_11_code 92 = .ok (.aload_n 0, 1) := by decide +kernel
theorem d_Reader_readNumber_93 : decode prog_8_method_11_code 93 = .ok (.getfield 18, 3) := by decide +kernel
theorem d_Reader_readNumber_96 : decode prog_8_method_11_code 96 = .ok (.invokevirtual 65, 3) := by decide +kernel
theorem d_Reader_readNumber_99 : decode prog_8_method_11_code 99 = .ok (.goto 28, 3) := by decide +kernel
theorem d_Reader_readNumber_102 : decode prog_8_method_11_code 102 = .ok (.iload 4, 2) := by decide +kernel
theorem d_Reader_readNumber_104 : decode prog_8_method_11_code 104 = .ok (.iconst 3, 1) := by decide +kernel
theorem d_Reader_readNumber_105 : decode prog_8_method_11_code 105 = .ok (.if_icmp .gt 13, 3) := by decide +kernel
theorem d_Reader_readNumber_108 : decode prog_8_method_11_code 108 = .ok (.iload_n 3, 1) := by decide +kernel
theorem d_Reader_readNumber_109 : decode prog_8_method_11_code 109 = .ok (.iload_n 1, 1) := by decide +kernel
theorem d_Reader_readNumber_110 : decode prog_8_method_11_code 110 = .ok (.if_icmp .lt 8, 3) := by decide +kernel
theorem d_Reader_readNumber_113 : decode prog_8_method_11_code 113 = .ok (.iload_n 3, 1) := by decide +kernel
theorem d_Reader_readNumber_114 : decode prog_8_method_11_code 114 = .ok (.iload_n 2, 1) := by decide +kernel
theorem d_Reader_readNumber_115 : decode prog_8_method_11_code 115 = .ok (.if_icmp .le 12, 3) := by decide +kernel
theorem d_Reader_readNumber_118 : decode prog_8_method_11_code 118 = .ok (.aload_n 0, 1) := by decide +kernel
theorem d_Reader_readNumber_119 : decode prog_8_method_11_code 119 = .ok (.iconst 2, 1) := by decide +kernel
theorem d_Reader_readNumber_120 : decode prog_8_method_11_code 120 = .ok (.aload_n 0, 1) := by decide +kernel
theorem d_Reader_readNumber_121 : decode prog_8_method_11_code 121 = .ok (.getfield 25, 3) := by decide +kernel
theorem d_Reader_readNumber_124 : decode prog_8_method_11_code 124 = .ok (.invokevirtual 65, 3) := by decide +kernel
theorem d_Reader_readNumber_127 : decode prog_8_method_11_code 127 = .ok (.aload_n 0, 1) := by decide +kernel
theorem d_Reader_readNumber_128 : decode prog_8_method_11_code 128 = .ok (.getfield 28, 3) := by decide +kernel
theorem d_Reader_readNumber_131 : decode prog_8_method_11_code 131 = .ok (.ifCond .ne 7, 3) := by decide +kernel
theorem d_Reader_readNumber_134 : decode prog_8_method_11_code 134 = .ok (.iload_n 3, 1) := by decide +kernel
theorem d_Reader_readNumber_135 : decode prog_8_method_11_code 135 = .ok (.goto 4, 3) := by decide +kernel
theorem d_Reader_readNumber_138 : decode prog_8_method_11_code 138 = .ok (.iload_n 1, 1) := by decide +kernel
theorem d_Reader_readNumber_139 : decode prog_8_method_11_code 139 = .ok (.ireturn, 1) := by decide +kernel
theorem w_Reader_readNumber_J61 {p : Program} {l : Launch} {e : Env} {s : State} {m : MethodId} {args : Array Value} {below : List Frame} {meth : Method} {c : Code} {K : KT} {A : Nat → Prop} {Q : State → Prop} (C0 : Cx p s m args meth c prog_8_method_11_code "CanoeSides$Reader" 5 K A) (hr : meth.sig.returnType = (Option.some Jvm.ClassFile.FieldType.int)) {ad : Nat → Nat} (N : Nat) (x1 : Int32) (x2 : Int32) (x3 : Int32) (h : Hp) {x_ : (Int32 × Hp) ⊕ (Int32 × Hp)} (hE : K_Reader_readNumber_J61 N x1 x2 x3 h = some x_) (hk1 : ∀ z_, x_ = .inl z_ → G p l e rm_Reader_readNumber s m args below meth c K A WReader 5 0 0 Q 14 [(0, .ref (ad 70)), (1, .int x1), (2, .int x2), (3, .int z_.1)] [] ad z_.2) (hk3 : ∀ z_, x_ = .inr z_ → G p l e rm_Reader_readNumber s m args below meth c K A WReader 5 0 0 Q 74 [(0, .ref (ad 70)), (1, .int x1), (2, .int x2), (3, .int z_.1)] [] ad z_.2) : G p l e rm_Reader_readNumber s m args below meth c K A WReader 5 0 0 Q 61 [(0, .ref (ad 70)), (1, .int x1), (2, .int x2), (3, .int x3)] [] ad h := by
  unfold K_Reader_readNumber_J61 at hE
  refine g_aload_n C0 0 d_Reader_readNumber_61 rfl rfl ?_
  refine g_dup C0 d_Reader_readNumber_62 rfl ?_
  refine g_geti C0 CK_6 3 (by decide) t_521 0 rfl rfl d_Reader_readNumber_63 ?_
  refine g_iconst C0 (v := 1) d_Reader_readNumber_66 (by decide) ?_
  refine g_iadd C0 d_Reader_readNumber_67 ?_
  obtain ⟨h68, e68, hE⟩ := nm_some hE
  refine g_puti C0 CK_6 CT_6 3 (by decide) t_521 rfl (by decide +kernel) nd_Reader 0 rfl rfl d_Reader_readNumber_68 ?_
  refine g_heap e68 ?_
  refine g_goto C0 (tgt := 14) d_Reader_readNumber_71 (by decide) ?_
  exact hk1 _ (Option.some.inj hE).symm
theorem w_Reader_readNumber_L14 {p : Program} {l : Launch} {e : Env} {s : State} {m : MethodId} {args : Array Value} {below : List Frame} {meth : Method} {c : Code} {K : KT} {A : Nat → Prop} {Q : State → Prop} (C0 : Cx p s m args meth c prog_8_method_11_code "CanoeSides$Reader" 5 K A) (hr : meth.sig.returnType = (Option.some Jvm.ClassFile.FieldType.int)) {ad : Nat → Nat} (N : Nat) (x1 : Int32) (x2 : Int32) (x3 : Int32) (h : Hp) {x_ : (Int32 × Hp) ⊕ (Int32 × Hp)} (hE : K_Reader_readNumber_L14 N x1 x2 x3 h = some x_) (hk1 : ∀ z_, x_ = .inl z_ → G p l e rm_Reader_readNumber s m args below meth c K A WReader 5 0 0 Q 14 [(0, .ref (ad 70)), (1, .int x1), (2, .int x2), (3, .int z_.1)] [] ad z_.2) (hk3 : ∀ z_, x_ = .inr z_ → G p l e rm_Reader_readNumber s m args below meth c K A WReader 5 0 0 Q 74 [(0, .ref (ad 70)), (1, .int x1), (2, .int x2), (3, .int z_.1)] [] ad z_.2) : G p l e rm_Reader_readNumber s m args below meth c K A WReader 5 0 0 Q 14 [(0, .ref (ad 70)), (1, .int x1), (2, .int x2), (3, .int x3)] [] ad h := by
  unfold K_Reader_readNumber_L14 at hE
  refine g_aload_n C0 0 d_Reader_readNumber_14 rfl rfl ?_
  refine g_geti C0 CK_6 3 (by decide) t_521 0 rfl rfl d_Reader_readNumber_15 ?_
  refine g_aload_n C0 0 d_Reader_readNumber_18 rfl rfl ?_
  refine g_geti C0 CK_6 1 (by decide) t_518 0 rfl rfl d_Reader_readNumber_19 ?_
  have hB := ite_some hE
  refine g_icmp_ge C0 (tgt := 74) d_Reader_readNumber_22 (by decide) (fun c_ => ?_) (fun c_ => ?_)
  · replace hE := hB.1 c_
    exact hk3 _ (Option.some.inj hE).symm
  · replace hE := hB.2 c_
    refine g_aload_n C0 0 d_Reader_readNumber_25 rfl rfl ?_
    obtain ⟨v26, z26, hE⟩ := bd_some hE
    refine g_calliP C0 nd_Reader [70, 2, 10, 11, 12] rfl (sbW_self WReader) (runV C0 (m_Reader_letterHere l K ad h z26) 0 rfl ⟨t_558, t_560, t_3, t_98, t_561⟩ cd_Reader_letterHere (by decide) 0 rfl rfl (sbW_self WReader) nd_Reader rfl rfl (Nat.le_of_ble_eq_true rfl) d_Reader_readNumber_26) ?_
    obtain ⟨v29, z29, hE⟩ := bd_some hE
    refine g_calliP C0 nd_Reader [] rfl (sb_E_Reader) (runS C0 (m_Reader_isFigure l K ad h v26 z29) 1 ⟨t_656, t_657, t_98, t_658⟩ cd_Reader_isFigure (by decide) (sb_E_Reader) nd_E rfl rfl (Nat.le_of_ble_eq_true rfl) d_Reader_readNumber_29) ?_
    have hB := ite_some hE
    refine g_if_eq C0 (tgt := 74) d_Reader_readNumber_32 (by decide) (fun c_ => ?_) (fun c_ => ?_)
    · replace hE := hB.1 c_
      exact hk3 _ (Option.some.inj hE).symm
    · replace hE := hB.2 c_
      refine g_aload_n C0 0 d_Reader_readNumber_35 rfl rfl ?_
      refine g_geti C0 CK_6 3 (by decide) t_521 0 rfl rfl d_Reader_readNumber_36 ?_
      refine g_aload_n C0 0 d_Reader_readNumber_39 rfl rfl ?_
      refine g_geti C0 CK_6 5 (by decide) t_523 0 rfl rfl d_Reader_readNumber_40 ?_
      refine g_isub C0 d_Reader_readNumber_43 ?_
      refine g_iconst C0 (v := 3) d_Reader_readNumber_44 (by decide) ?_
      have hB := ite_some hE
      refine g_icmp_ge C0 (tgt := 61) d_Reader_readNumber_45 (by decide) (fun c_ => ?_) (fun c_ => ?_)
      · replace hE := hB.1 c_
        exact w_Reader_readNumber_J61 C0 hr N x1 x2 x3 h hE hk1 hk3
      · replace hE := hB.2 c_
        refine g_bipush C0 (v := 10) d_Reader_readNumber_48 (by decide) ?_
        refine g_iload_n C0 3 d_Reader_readNumber_50 rfl rfl ?_
        refine g_imul C0 d_Reader_readNumber_51 ?_
        refine g_aload_n C0 0 d_Reader_readNumber_52 rfl rfl ?_
        obtain ⟨v53, z53, hE⟩ := bd_some hE
        refine g_calliP C0 nd_Reader [70, 2, 10, 11, 12] rfl (sbW_self WReader) (runV C0 (m_Reader_letterHere l K ad h z53) 0 rfl ⟨t_558, t_560, t_3, t_98, t_561⟩ cd_Reader_letterHere (by decide) 0 rfl rfl (sbW_self WReader) nd_Reader rfl rfl (Nat.le_of_ble_eq_true rfl) d_Reader_readNumber_53) ?_
        refine g_iadd C0 d_Reader_readNumber_56 ?_
        refine g_bipush C0 (v := 48) d_Reader_readNumber_57 (by decide) ?_
        refine g_isub C0 d_Reader_readNumber_59 ?_
        obtain ⟨v60, e60, hE⟩ := nm_some hE
        refine g_top e60 ?_
        refine g_istore_n C0 [(3, .int v60), (0, .ref (ad 70)), (1, .int x1), (2, .int x2)] d_Reader_readNumber_60 rfl (by decide) rfl ?_
        refine g_sub [1, 2, 3, 0] (L' := [(0, .ref (ad 70)), (1, .int x1), (2, .int x2), (3, .int v60)]) rfl ?_
        exact w_Reader_readNumber_J61 C0 hr N x1 x2 v60 h hE hk1 hk3
theorem w_Reader_readNumber_J127 {p : Program} {l : Launch} {e : Env} {s : State} {m : MethodId} {args : Array Value} {below : List Frame} {meth : Method} {c : Code} {K : KT} {A : Nat → Prop} (C0 : Cx p s m args meth c prog_8_method_11_code "CanoeSides$Reader" 5 K A) (hr : meth.sig.returnType = (Option.some Jvm.ClassFile.FieldType.int)) {ad : Nat → Nat} (N : Nat) (x1 : Int32) (x3 : Int32) (h : Hp) {res : Int32 × Hp} (hE : K_Reader_readNumber_J127 N x1 x3 h = some res) : G p l e rm_Reader_readNumber s m args below meth c K A WReader 5 0 0 (QI s args below K A WReader 0 0 ad res.1 res.2) 127 [(0, .ref (ad 70)), (1, .int x1), (3, .int x3)] [] ad h := by
  unfold K_Reader_readNumber_J127 at hE
  refine g_aload_n C0 0 d_Reader_readNumber_127 rfl rfl ?_
  refine g_geti C0 CK_6 6 (by decide) t_524 0 rfl rfl d_Reader_readNumber_128 ?_
  have hB := ite_some hE
  refine g_if_ne C0 (tgt := 138) d_Reader_readNumber_131 (by decide) (fun c_ => ?_) (fun c_ => ?_)
  · replace hE := hB.2 c_
    refine g_iload_n C0 1 d_Reader_readNumber_138 rfl rfl ?_
    obtain rfl := Option.some.inj hE
    exact g_iret C0 hr d_Reader_readNumber_139
  · replace hE := hB.1 c_
    refine g_iload_n C0 2 d_Reader_readNumber_134 rfl rfl ?_
    refine g_goto C0 (tgt := 139) d_Reader_readNumber_135 (by decide) ?_
    obtain rfl := Option.some.inj hE
    exact g_iret C0 hr d_Reader_readNumber_139
theorem w_Reader_readNumber_J118 {p : Program} {l : Launch} {e : Env} {s : State} {m : MethodId} {args : Array Value} {below : List Frame} {meth : Method} {c : Code} {K : KT} {A : Nat → Prop} (C0 : Cx p s m args meth c prog_8_method_11_code "CanoeSides$Reader" 5 K A) (hr : meth.sig.returnType = (Option.some Jvm.ClassFile.FieldType.int)) {ad : Nat → Nat} (N : Nat) (x1 : Int32) (x3 : Int32) (h : Hp) {res : Int32 × Hp} (hE : K_Reader_readNumber_J118 N x1 x3 h = some res) : G p l e rm_Reader_readNumber s m args below meth c K A WReader 5 0 0 (QI s args below K A WReader 0 0 ad res.1 res.2) 118 [(0, .ref (ad 70)), (1, .int x1), (3, .int x3)] [] ad h := by
  unfold K_Reader_readNumber_J118 at hE
  refine g_aload_n C0 0 d_Reader_readNumber_118 rfl rfl ?_
  refine g_iconst C0 (v := 2) d_Reader_readNumber_119 (by decide) ?_
  refine g_aload_n C0 0 d_Reader_readNumber_120 rfl rfl ?_
  refine g_geti C0 CK_6 5 (by decide) t_523 0 rfl rfl d_Reader_readNumber_121 ?_
  obtain ⟨h124, z124, hE⟩ := bd_some hE
  refine g_callv C0 nd_Reader [70, 2, 10, 11, 12] rfl (sbW_self WReader) (runV C0 (m_Reader_fail l K ad h 2 (h 70 5) z124) 2 rfl ⟨t_644, t_646, t_4, t_98, t_647⟩ cd_Reader_fail (by decide) 0 rfl rfl (sbW_self WReader) nd_Reader rfl rfl (Nat.le_of_ble_eq_true rfl) d_Reader_readNumber_124) ?_
  refine g_mx [70, 2, 10, 11, 12] rfl ?_
  exact w_Reader_readNumber_J127 C0 hr N x1 x3 h124 hE
theorem w_Reader_readNumber_J74 {p : Program} {l : Launch} {e : Env} {s : State} {m : MethodId} {args : Array Value} {below : List Frame} {meth : Method} {c : Code} {K : KT} {A : Nat → Prop} (C0 : Cx p s m args meth c prog_8_method_11_code "CanoeSides$Reader" 5 K A) (hr : meth.sig.returnType = (Option.some Jvm.ClassFile.FieldType.int)) {ad : Nat → Nat} (N : Nat) (x1 : Int32) (x2 : Int32) (x3 : Int32) (h : Hp) {res : Int32 × Hp} (hE : K_Reader_readNumber_J74 N x1 x2 x3 h = some res) : G p l e rm_Reader_readNumber s m args below meth c K A WReader 5 0 0 (QI s args below K A WReader 0 0 ad res.1 res.2) 74 [(0, .ref (ad 70)), (1, .int x1), (2, .int x2), (3, .int x3)] [] ad h := by
  unfold K_Reader_readNumber_J74 at hE
  refine g_aload_n C0 0 d_Reader_readNumber_74 rfl rfl ?_
  refine g_geti C0 CK_6 3 (by decide) t_521 0 rfl rfl d_Reader_readNumber_75 ?_
  refine g_aload_n C0 0 d_Reader_readNumber_78 rfl rfl ?_
  refine g_geti C0 CK_6 5 (by decide) t_523 0 rfl rfl d_Reader_readNumber_79 ?_
  refine g_isub C0 d_Reader_readNumber_82 ?_
  obtain ⟨v83, e83, hE⟩ := nm_some hE
  refine g_top e83 ?_
  refine g_istore C0 [(4, .int v83), (0, .ref (ad 70)), (1, .int x1), (2, .int x2), (3, .int x3)] d_Reader_readNumber_83 (by decide) rfl ?_
  refine g_iload C0 0 d_Reader_readNumber_85 rfl ?_
  have hB := ite_some hE
  refine g_if_ne C0 (tgt := 102) d_Reader_readNumber_87 (by decide) (fun c_ => ?_) (fun c_ => ?_)
  · replace hE := hB.2 c_
    refine g_iload C0 0 d_Reader_readNumber_102 rfl ?_
    refine g_iconst C0 (v := 3) d_Reader_readNumber_104 (by decide) ?_
    have hB := ite_some hE
    refine g_icmp_gt C0 (tgt := 118) d_Reader_readNumber_105 (by decide) (fun c_ => ?_) (fun c_ => ?_)
    · replace hE := hB.1 c_
      refine g_sub [1, 2, 4] (L' := [(0, .ref (ad 70)), (1, .int x1), (3, .int x3)]) rfl ?_
      exact w_Reader_readNumber_J118 C0 hr N x1 x3 h hE
    · replace hE := hB.2 c_
      refine g_iload_n C0 4 d_Reader_readNumber_108 rfl rfl ?_
      refine g_iload_n C0 2 d_Reader_readNumber_109 rfl rfl ?_
      have hB := ite_some hE
      refine g_icmp_lt C0 (tgt := 118) d_Reader_readNumber_110 (by decide) (fun c_ => ?_) (fun c_ => ?_)
      · replace hE := hB.1 c_
        refine g_sub [1, 2, 4] (L' := [(0, .ref (ad 70)), (1, .int x1), (3, .int x3)]) rfl ?_
        exact w_Reader_readNumber_J118 C0 hr N x1 x3 h hE
      · replace hE := hB.2 c_
        refine g_iload_n C0 4 d_Reader_readNumber_113 rfl rfl ?_
        refine g_iload_n C0 3 d_Reader_readNumber_114 rfl rfl ?_
        have hB := ite_some hE
        refine g_icmp_le C0 (tgt := 127) d_Reader_readNumber_115 (by decide) (fun c_ => ?_) (fun c_ => ?_)
        · replace hE := hB.1 c_
          refine g_sub [1, 2, 4] (L' := [(0, .ref (ad 70)), (1, .int x1), (3, .int x3)]) rfl ?_
          exact w_Reader_readNumber_J127 C0 hr N x1 x3 h hE
        · replace hE := hB.2 c_
          refine g_sub [1, 2, 4] (L' := [(0, .ref (ad 70)), (1, .int x1), (3, .int x3)]) rfl ?_
          exact w_Reader_readNumber_J118 C0 hr N x1 x3 h hE
  · replace hE := hB.1 c_
    refine g_aload_n C0 1 d_Reader_readNumber_90 rfl rfl ?_
    refine g_iconst C0 (v := 1) d_Reader_readNumber_91 (by decide) ?_
    refine g_aload_n C0 1 d_Reader_readNumber_92 rfl rfl ?_
    refine g_geti C0 CK_6 3 (by decide) t_521 0 rfl rfl d_Reader_readNumber_93 ?_
    obtain ⟨h96, z96, hE⟩ := bd_some hE
    refine g_callv C0 nd_Reader [70, 2, 10, 11, 12] rfl (sbW_self WReader) (runV C0 (m_Reader_fail l K ad h 1 (h 70 3) z96) 2 rfl ⟨t_644, t_646, t_4, t_98, t_647⟩ cd_Reader_fail (by decide) 0 rfl rfl (sbW_self WReader) nd_Reader rfl rfl (Nat.le_of_ble_eq_true rfl) d_Reader_readNumber_96) ?_
    refine g_mx [70, 2, 10, 11, 12] rfl ?_
    refine g_goto C0 (tgt := 127) d_Reader_readNumber_99 (by decide) ?_
    refine g_sub [1, 2, 4] (L' := [(0, .ref (ad 70)), (1, .int x1), (3, .int x3)]) rfl ?_
    exact w_Reader_readNumber_J127 C0 hr N x1 x3 h96 hE
theorem w_Reader_readNumber {p : Program} {l : Launch} {e : Env} {s : State} {m : MethodId} {args : Array Value} {below : List Frame} {meth : Method} {c : Code} {K : KT} {A : Nat → Prop} (C0 : Cx p s m args meth c prog_8_method_11_code "CanoeSides$Reader" 5 K A) (hr : meth.sig.returnType = (Option.some Jvm.ClassFile.FieldType.int)) {ad : Nat → Nat} (N : Nat) (a0 : Int32) (b0 : Int32) (h : Hp) {res : Int32 × Hp} (hE : K_Reader_readNumber N a0 b0 h = some res) : G p l e rm_Reader_readNumber s m args below meth c K A WReader 5 0 0 (QI s args below K A WReader 0 0 ad res.1 res.2) 0 [(0, .ref (ad 70)), (1, .int a0), (2, .int b0)] [] ad h := by
  unfold K_Reader_readNumber at hE
  refine g_aload_n C0 0 d_Reader_readNumber_0 rfl rfl ?_
  obtain ⟨h1, z1, hE⟩ := bd_some hE
  refine g_callv C0 nd_Reader [70, 2, 10, 11, 12] rfl (sbW_self WReader) (runV C0 (m_Reader_skipBlanks l K ad h N z1) 0 rfl ⟨t_549, t_551, t_1, t_98, t_552⟩ cd_Reader_skipBlanks (by decide) 0 rfl rfl (sbW_self WReader) nd_Reader rfl rfl (Nat.le_of_ble_eq_true rfl) d_Reader_readNumber_1) ?_
  refine g_mx [70, 2, 10, 11, 12] rfl ?_
  refine g_aload_n C0 0 d_Reader_readNumber_4 rfl rfl ?_
  refine g_aload_n C0 0 d_Reader_readNumber_5 rfl rfl ?_
  refine g_geti C0 CK_6 3 (by decide) t_521 0 rfl rfl d_Reader_readNumber_6 ?_
  obtain ⟨h9, e9, hE⟩ := nm_some hE
  refine g_puti C0 CK_6 CT_6 5 (by decide) t_523 rfl (by decide +kernel) nd_Reader 0 rfl rfl d_Reader_readNumber_9 ?_
  refine g_heap e9 ?_
  refine g_iconst C0 (v := 0) d_Reader_readNumber_12 (by decide) ?_
  refine g_istore_n C0 [(3, .int 0), (0, .ref (ad 70)), (1, .int a0), (2, .int b0)] d_Reader_readNumber_13 rfl (by decide) rfl ?_
  refine g_sub [1, 2, 3, 0] (L' := [(0, .ref (ad 70)), (1, .int a0), (2, .int b0), (3, .int 0)]) rfl ?_
  obtain ⟨t14, z14, hE⟩ := bd_some hE
  refine loopG (fun z_ : Int32 × Hp => K_Reader_readNumber_L14 N a0 b0 z_.1 z_.2) (fun z_ : Int32 × Hp => G p l e rm_Reader_readNumber s m args below meth c K A WReader 5 0 0 _ 14 [(0, .ref (ad 70)), (1, .int a0), (2, .int b0), (3, .int z_.1)] [] ad z_.2) (fun z_ : Int32 × Hp => G p l e rm_Reader_readNumber s m args below meth c K A WReader 5 0 0 _ 74 [(0, .ref (ad 70)), (1, .int a0), (2, .int b0), (3, .int z_.1)] [] ad z_.2) (fun z_ x_ hz k1 k2 => w_Reader_readNumber_L14 C0 hr N a0 b0 z_.1 z_.2 hz k1 k2) _ _ _ z14 ?_
  try dsimp only
  exact w_Reader_readNumber_J74 C0 hr N a0 b0 t14.1 t14.2 hE
theorem m_Reader_readNumber (l : Launch) (K : KT) (ad : Nat → Nat) (h : Hp) (N : Nat) (a0 : Int32) (b0 : Int32) {res : Int32 × Hp} (hE : K_Reader_readNumber N a0 b0 h = some res) : ConI l y_Reader_readNumber prog_8_method_11_code 5 (Option.some Jvm.ClassFile.FieldType.int) rm_Reader_readNumber K WReader ad h [.ref (ad 70), .int a0, .int b0] res.1 res.2 := fun sz =>
  con_start [(0, .ref (ad 70)), (1, .int a0), (2, .int b0)] (by decide +kernel) rfl (Nat.le_of_ble_eq_true rfl) (fun p e s m args below meth c C0 hr hnm hsz => w_Reader_readNumber C0 hr N a0 b0 h hE)
abbrev y_Reader_readOneOf : MethodName := ⟨"CanoeSides$Reader", "readOneOf", "(Ljava/lang/String;)I"⟩
abbrev rm_Reader_readOneOf : Room := { frames := 4, cells := 0, slots := 0, locals := 91 }
theorem cd_Reader_readOneOf : cwd y_Reader_readOneOf 1 := by decide +kernel
theorem d_Reader_readOneOf_0 : decode prog_8_method_12_code 0 = .ok (.aload_n 0, 1) := by decide +kernel
theorem d_Reader_readOneOf_1 : decode prog_8_method_12_code 1 = .ok (.invokevirtual 47, 3) := by decide +kernel
theorem d_Reader_readOneOf_4 : decode prog_8_method_12_code 4 = .ok (.aload_n 1, 1) := by decide +kernel
theorem d_Reader_readOneOf_5 : decode prog_8_method_12_code 5 = .ok (.aload_n 0, 1) := by decide +kernel
theorem d_Reader_readOneOf_6 : decode prog_8_method_12_code 6 = .ok (.invokevirtual 55, 3) := by decide +kernel
theorem d_Reader_readOneOf_9 : decode prog_8_method_12_code 9 = .ok (.i2c, 1) := by decide +kernel
theorem d_Reader_readOneOf_10 : decode prog_8_method_12_code 10 = .ok (.invokevirtual 59, 3) := by decide +kernel
theorem d_Reader_readOneOf_13 : decode prog_8_method_12_code 13 = .ok (.istore_n 2, 1) := by decide +kernel
theorem d_Reader_readOneOf_14 : decode prog_8_method_12_code 14 = .ok (.iload_n 2, 1) := by decide +kernel
theorem d_Reader_readOneOf_15 : decode prog_8_method_12_code 15 = .ok (.ifCond .ge 14, 3) := by decide +kernel
theorem d_Reader_readOneOf_18 : decode prog_8_method_12_code 18 = .ok (.aload_n 0, 1) := by decide +kernel
theorem d_Reader_readOneOf_19 : decode prog_8_method_12_code 19 = .ok (.iconst 1, 1) := by decide +kernel
theorem d_Reader_readOneOf_20 : decode prog_8_method_12_code 20 = .ok (.aload_n 0, 1) := by decide +kernel
theorem d_Reader_readOneOf_21 : decode prog_8_method_12_code 21 = .ok (.getfield 18, 3) := by decide +kernel
theorem d_Reader_readOneOf_24 : decode prog_8_method_12_code 24 = .ok (.invokevirtual 65, 3) := by decide +kernel
theorem d_Reader_readOneOf_27 : decode prog_8_method_12_code 27 = .ok (.iconst 0, 1) := by decide +kernel
theorem d_Reader_readOneOf_28 : decode prog_8_method_12_code 28 = .ok (.ireturn, 1) := by decide +kernel
theorem d_Reader_readOneOf_29 : decode prog_8_method_12_code 29 = .ok (.aload_n 0, 1) := by decide +kernel
theorem d_Reader_readOneOf_30 : decode prog_8_method_12_code 30 = .ok (.dup, 1) := by decide +kernel
theorem d_Reader_readOneOf_31 : decode prog_8_method_12_code 31 = .ok (.getfield 18, 3) := by decide +kernel
theorem d_Reader_readOneOf_34 : decode prog_8_method_12_code 34 = .ok (.iconst 1, 1) := by decide +kernel
theorem d_Reader_readOneOf_35 : decode prog_8_method_12_code 35 = .ok (.iadd, 1) := by decide +kernel
theorem d_Reader_readOneOf_36 : decode prog_8_method_12_code 36 = .ok (.putfield 18, 3) := by decide +kernel
theorem d_Reader_readOneOf_39 : decode prog_8_method_12_code 39 = .ok (.iload_n 2, 1) := by decide +kernel
theorem d_Reader_readOneOf_40 : decode prog_8_method_12_code 40 = .ok (.ireturn, 1) := by decide +kernel
theorem w_Reader_readOneOf {p : Program} {l : Launch} {e : Env} {s : State} {m : MethodId} {args : Array Value} {below : List Frame} {meth : Method} {c : Code} {K : KT} {A : Nat → Prop} (C0 : Cx p s m args meth c prog_8_method_12_code "CanoeSides$Reader" 3 K A) (hr : meth.sig.returnType = (Option.some Jvm.ClassFile.FieldType.int)) {ad : Nat → Nat} (N : Nat) (a0 : Nat) (h : Hp) (hsa0 : a0 < 3) {res : Int32 × Hp} (hE : K_Reader_readOneOf N a0 h = some res) : G p l e rm_Reader_readOneOf s m args below meth c K A WReader 3 0 0 (QI s args below K A WReader 0 0 ad res.1 res.2) 0 [(0, .ref (ad 70)), (1, .ref (K.2.2 (2 + a0)))] [] ad h := by
  unfold K_Reader_readOneOf at hE
  refine g_aload_n C0 0 d_Reader_readOneOf_0 rfl rfl ?_
  obtain ⟨h1, z1, hE⟩ := bd_some hE
  refine g_callv C0 nd_Reader [70, 2, 10, 11, 12] rfl (sbW_self WReader) (runV C0 (m_Reader_skipBlanks l K ad h N z1) 0 rfl ⟨t_549, t_551, t_1, t_98, t_552⟩ cd_Reader_skipBlanks (by decide) 0 rfl rfl (sbW_self WReader) nd_Reader rfl rfl (Nat.le_of_ble_eq_true rfl) d_Reader_readOneOf_1) ?_
  refine g_mx [70, 2, 10, 11, 12] rfl ?_
  refine g_aload_n C0 1 d_Reader_readOneOf_4 rfl rfl ?_
  refine g_aload_n C0 0 d_Reader_readOneOf_5 rfl rfl ?_
  obtain ⟨v6, z6, hE⟩ := bd_some hE
  refine g_calliP C0 nd_Reader [70, 2, 10, 11, 12] rfl (sbW_self WReader) (runV C0 (m_Reader_letterHere l K ad h1 z6) 0 rfl ⟨t_558, t_560, t_3, t_98, t_561⟩ cd_Reader_letterHere (by decide) 0 rfl rfl (sbW_self WReader) nd_Reader rfl rfl (Nat.le_of_ble_eq_true rfl) d_Reader_readOneOf_6) ?_
  refine g_i2c C0 d_Reader_readOneOf_9 ?_
  obtain ⟨v10, e10, hE⟩ := nm_some hE
  refine g_idx C0 nd_Reader t_562 (by decide) hsa0 (Nat.le_of_ble_eq_true rfl) d_Reader_readOneOf_10 ?_
  refine g_top e10 ?_
  refine g_istore_n C0 [(2, .int v10), (0, .ref (ad 70)), (1, .ref (K.2.2 (2 + a0)))] d_Reader_readOneOf_13 rfl (by decide) rfl ?_
  refine g_iload_n C0 0 d_Reader_readOneOf_14 rfl rfl ?_
  have hB := ite_some hE
  refine g_if_ge C0 (tgt := 29) d_Reader_readOneOf_15 (by decide) (fun c_ => ?_) (fun c_ => ?_)
  · replace hE := hB.1 c_
    refine g_aload_n C0 1 d_Reader_readOneOf_29 rfl rfl ?_
    refine g_dup C0 d_Reader_readOneOf_30 rfl ?_
    refine g_geti C0 CK_6 3 (by decide) t_521 0 rfl rfl d_Reader_readOneOf_31 ?_
    refine g_iconst C0 (v := 1) d_Reader_readOneOf_34 (by decide) ?_
    refine g_iadd C0 d_Reader_readOneOf_35 ?_
    obtain ⟨h36, e36, hE⟩ := nm_some hE
    refine g_puti C0 CK_6 CT_6 3 (by decide) t_521 rfl (by decide +kernel) nd_Reader 0 rfl rfl d_Reader_readOneOf_36 ?_
    refine g_heap e36 ?_
    refine g_iload_n C0 0 d_Reader_readOneOf_39 rfl rfl ?_
    obtain rfl := Option.some.inj hE
    exact g_iret C0 hr d_Reader_readOneOf_40
  · replace hE := hB.2 c_
    refine g_aload_n C0 1 d_Reader_readOneOf_18 rfl rfl ?_
    refine g_iconst C0 (v := 1) d_Reader_readOneOf_19 (by decide) ?_
    refine g_aload_n C0 1 d_Reader_readOneOf_20 rfl rfl ?_
    refine g_geti C0 CK_6 3 (by decide) t_521 0 rfl rfl d_Reader_readOneOf_21 ?_
    obtain ⟨h24, z24, hE⟩ := bd_some hE
    refine g_callv C0 nd_Reader [70, 2, 10, 11, 12] rfl (sbW_self WReader) (runV C0 (m_Reader_fail l K ad h1 1 (h1 70 3) z24) 2 rfl ⟨t_644, t_646, t_4, t_98, t_647⟩ cd_Reader_fail (by decide) 0 rfl rfl (sbW_self WReader) nd_Reader rfl rfl (Nat.le_of_ble_eq_true rfl) d_Reader_readOneOf_24) ?_
    refine g_mx [70, 2, 10, 11, 12] rfl ?_
    refine g_iconst C0 (v := 0) d_Reader_readOneOf_27 (by decide) ?_
    obtain rfl := Option.some.inj hE
    exact g_iret C0 hr d_Reader_readOneOf_28
theorem m_Reader_readOneOf (l : Launch) (K : KT) (ad : Nat → Nat) (h : Hp) (N : Nat) (a0 : Nat) (hsa0 : a0 < 3) {res : Int32 × Hp} (hE : K_Reader_readOneOf N a0 h = some res) : ConI l y_Reader_readOneOf prog_8_method_12_code 3 (Option.some Jvm.ClassFile.FieldType.int) rm_Reader_readOneOf K WReader ad h [.ref (ad 70), .ref (K.2.2 (2 + a0))] res.1 res.2 := fun sz =>
  con_start [(0, .ref (ad 70)), (1, .ref (K.2.2 (2 + a0)))] (by decide +kernel) rfl (Nat.le_of_ble_eq_true rfl) (fun p e s m args below meth c C0 hr hnm hsz => w_Reader_readOneOf C0 hr N a0 h hsa0 hE)
abbrev y_River_putKind : MethodName := ⟨"CanoeSides$River", "putKind", "(II)V"⟩
abbrev rm_River_putKind : Room := { frames := 0, cells := 0, slots := 0, locals := 0 }
theorem cd_River_putKind : cwd y_River_putKind 2 := by decide +kernel
theorem d_River_putKind_0 : decode prog_9_method_4_code 0 = .ok (.iload_n 1, 1) := by decide +kernel
theorem d_River_putKind_1 : decode prog_9_method_4_code 1 = .ok (.ifCond .lt 19, 3) := by decide +kernel
theorem d_River_putKind_4 : decode prog_9_method_4_code 4 = .ok (.iload_n 1, 1) := by decide +kernel
theorem d_River_putKind_5 : decode prog_9_method_4_code 5 = .ok (.aload_n 0, 1) := by decide +kernel
theorem d_River_putKind_6 : decode prog_9_method_4_code 6 = .ok (.getfield 18, 3) := by decide +kernel
theorem d_River_putKind_9 : decode prog_9_method_4_code 9 = .ok (.arraylength, 1) := by decide +kernel
theorem d_River_putKind_10 : decode prog_9_method_4_code 10 = .ok (.if_icmp .ge 10, 3) := by decide +kernel
theorem d_River_putKind_13 : decode prog_9_method_4_code 13 = .ok (.aload_n 0, 1) := by decide +kernel
theorem d_River_putKind_14 : decode prog_9_method_4_code 14 = .ok (.getfield 18, 3) := by decide +kernel
theorem d_River_putKind_17 : decode prog_9_method_4_code 17 = .ok (.iload_n 1, 1) := by decide +kernel
theorem d_River_putKind_18 : decode prog_9_method_4_code 18 = .ok (.iload_n 2, 1) := by decide +kernel
theorem d_River_putKind_19 : decode prog_9_method_4_code 19 = .ok (.iastore, 1) := by decide +kernel
theorem d_River_putKind_20 : decode prog_9_method_4_code 20 = .ok (.return_, 1) := by decide +kernel
theorem w_River_putKind {p : Program} {l : Launch} {e : Env} {s : State} {m : MethodId} {args : Array Value} {below : List Frame} {meth : Method} {c : Code} {K : KT} {A : Nat → Prop} (C0 : Cx p s m args meth c prog_9_method_4_code "CanoeSides$River" 3 K A) (hr : meth.sig.returnType = (Option.none : Option Jvm.ClassFile.FieldType)) {ad : Nat → Nat} (a0 : Int32) (b0 : Int32) (h : Hp) {res : Hp} (hE : K_River_putKind a0 b0 h = some res) : G p l e rm_River_putKind s m args below meth c K A WRiver 3 0 0 (QV s args below K A WRiver 0 0 ad res) 0 [(0, .ref (ad 10)), (1, .int a0), (2, .int b0)] [] ad h := by
  unfold K_River_putKind at hE
  refine g_iload_n C0 1 d_River_putKind_0 rfl rfl ?_
  have hB := ite_some hE
  refine g_if_lt C0 (tgt := 20) d_River_putKind_1 (by decide) (fun c_ => ?_) (fun c_ => ?_)
  · replace hE := hB.1 c_
    obtain rfl := Option.some.inj hE
    exact g_vret C0 hr d_River_putKind_20
  · replace hE := hB.2 c_
    refine g_iload_n C0 1 d_River_putKind_4 rfl rfl ?_
    refine g_aload_n C0 0 d_River_putKind_5 rfl rfl ?_
    refine g_getr C0 CK_7 2 (by decide) t_127 0 rfl rfl d_River_putKind_6 ?_
    refine g_alen C0 1 rfl rfl (v := 48) (by decide) d_River_putKind_9 ?_
    have hB := ite_some hE
    refine g_icmp_ge C0 (tgt := 20) d_River_putKind_10 (by decide) (fun c_ => ?_) (fun c_ => ?_)
    · replace hE := hB.1 c_
      obtain rfl := Option.some.inj hE
      exact g_vret C0 hr d_River_putKind_20
    · replace hE := hB.2 c_
      refine g_aload_n C0 0 d_River_putKind_13 rfl rfl ?_
      refine g_getr C0 CK_7 2 (by decide) t_127 0 rfl rfl d_River_putKind_14 ?_
      refine g_iload_n C0 1 d_River_putKind_17 rfl rfl ?_
      refine g_iload_n C0 2 d_River_putKind_18 rfl rfl ?_
      obtain ⟨q19, hE⟩ := sA_some hE
      obtain ⟨h19, e19, hE⟩ := nm_some hE
      refine g_iast C0 1 rfl nd_River q19 d_River_putKind_19 ?_
      refine g_heap e19 ?_
      obtain rfl := Option.some.inj hE
      exact g_vret C0 hr d_River_putKind_20
theorem m_River_putKind (l : Launch) (K : KT) (ad : Nat → Nat) (h : Hp) (a0 : Int32) (b0 : Int32) {res : Hp} (hE : K_River_putKind a0 b0 h = some res) : ConV l y_River_putKind prog_9_method_4_code 3 (Option.none : Option Jvm.ClassFile.FieldType) rm_River_putKind K WRiver ad h [.ref (ad 10), .int a0, .int b0] res := fun sz =>
  con_start [(0, .ref (ad 10)), (1, .int a0), (2, .int b0)] (by decide +kernel) rfl (Nat.le_of_ble_eq_true rfl) (fun p e s m args below meth c C0 hr hnm hsz => w_River_putKind C0 hr a0 b0 h hE)
abbrev y_River_firstOpen : MethodName := ⟨"CanoeSides$River", "firstOpen", "()I"⟩
abbrev rm_River_firstOpen : Room := { frames := 0, cells := 0, slots := 0, locals := 0 }
theorem cd_River_firstOpen : cwd y_River_firstOpen 0 := by decide +kernel
theorem d_River_firstOpen_0 : decode prog_9_method_7_code 0 = .ok (.iconst 0, 1) := by decide +kernel
theorem d_River_firstOpen_1 : decode prog_9_method_7_code 1 = .ok (.istore_n 1, 1) := by decide +kernel
theorem d_River_firstOpen_2 : decode prog_9_method_7_code 2 = .ok (.iload_n 1, 1) := by decide +kernel
theorem d_River_firstOpen_3 : decode prog_9_method_7_code 3 = .ok (.aload_n 0, 1) := by decide +kernel
theorem d_River_firstOpen_4 : decode prog_9_method_7_code 4 = .ok (.getfield 18, 3) := by decide +kernel
theorem d_River_firstOpen_7 : decode prog_9_method_7_code 7 = .ok (.arraylength, 1) := by decide +kernel
theorem d_River_firstOpen_8 : decode prog_9_method_7_code 8 = .ok (.if_icmp .ge 21, 3) := by decide +kernel
theorem d_River_firstOpen_11 : decode prog_9_method_7_code 11 = .ok (.aload_n 0, 1) := by decide +kernel
theorem d_River_firstOpen_12 : decode prog_9_method_7_code 12 = .ok (.getfield 18, 3) := by decide +kernel
theorem d_River_firstOpen_15 : decode prog_9_method_7_code 15 = .ok (.iload_n 1, 1) := by decide +kernel
theorem d_River_firstOpen_16 : decode prog_9_method_7_code 16 = .ok (.iaload, 1) := by decide +kernel
theorem d_River_firstOpen_17 : decode prog_9_method_7_code 17 = .ok (.iconst 1, 1) := by decide +kernel
theorem d_River_firstOpen_18 : decode prog_9_method_7_code 18 = .ok (.if_icmp .eq 5, 3) := by decide +kernel
theorem d_River_firstOpen_21 : decode prog_9_method_7_code 21 = .ok (.iload_n 1, 1) := by decide +kernel
theorem d_River_firstOpen_22 : decode prog_9_method_7_code 22 = .ok (.ireturn, 1) := by decide +kernel
theorem d_River_firstOpen_23 : decode prog_9_method_7_code 23 = .ok (.iinc 1 1, 3) := by decide +kernel
theorem d_River_firstOpen_26 : decode prog_9_method_7_code 26 = .ok (.goto (-24), 3) := by decide +kernel
theorem d_River_firstOpen_29 : decode prog_9_method_7_code 29 = .ok (.iconst (-1), 1) := by decide +kernel
theorem d_River_firstOpen_30 : decode prog_9_method_7_code 30 = .ok (.ireturn, 1) := by decide +kernel
theorem w_River_firstOpen_L2 {p : Program} {l : Launch} {e : Env} {s : State} {m : MethodId} {args : Array Value} {below : List Frame} {meth : Method} {c : Code} {K : KT} {A : Nat → Prop} {Q : State → Prop} (C0 : Cx p s m args meth c prog_9_method_7_code "CanoeSides$River" 2 K A) (hr : meth.sig.returnType = (Option.some Jvm.ClassFile.FieldType.int)) {ad : Nat → Nat} (N : Nat) (x1 : Int32) (h : Hp) {x_ : (Int32) ⊕ (Int32) ⊕ (Unit)} (hE : K_River_firstOpen_L2 N x1 h = some x_) (hk1 : ∀ z_, x_ = .inl z_ → G p l e rm_River_firstOpen s m args below meth c K A WRiver 2 0 0 Q 2 [(0, .ref (ad 10)), (1, .int z_)] [] ad h) (hk2 : ∀ r_, x_ = .inr (.inl r_) → Q = (QI s args below K A WRiver 0 0 ad r_ h)) (hk3 : ∀ z_, x_ = .inr (.inr z_) → G p l e rm_River_firstOpen s m args below meth c K A WRiver 2 0 0 Q 29 [] [] ad h) : G p l e rm_River_firstOpen s m args below meth c K A WRiver 2 0 0 Q 2 [(0, .ref (ad 10)), (1, .int x1)] [] ad h := by
  unfold K_River_firstOpen_L2 at hE
  refine g_iload_n C0 1 d_River_firstOpen_2 rfl rfl ?_
  refine g_aload_n C0 0 d_River_firstOpen_3 rfl rfl ?_
  refine g_getr C0 CK_7 2 (by decide) t_127 0 rfl rfl d_River_firstOpen_4 ?_
  refine g_alen C0 1 rfl rfl (v := 48) (by decide) d_River_firstOpen_7 ?_
  have hB := ite_some hE
  refine g_icmp_ge C0 (tgt := 29) d_River_firstOpen_8 (by decide) (fun c_ => ?_) (fun c_ => ?_)
  · replace hE := hB.1 c_
    refine g_sub [] (L' := []) rfl ?_
    exact hk3 _ (Option.some.inj hE).symm
  · replace hE := hB.2 c_
    refine g_aload_n C0 0 d_River_firstOpen_11 rfl rfl ?_
    refine g_getr C0 CK_7 2 (by decide) t_127 0 rfl rfl d_River_firstOpen_12 ?_
    refine g_iload_n C0 1 d_River_firstOpen_15 rfl rfl ?_
    obtain ⟨q16, v16, e16, hE⟩ := gA_some hE
    refine g_iald C0 1 rfl q16 d_River_firstOpen_16 ?_
    refine g_top e16 ?_
    refine g_iconst C0 (v := 1) d_River_firstOpen_17 (by decide) ?_
    have hB := ite_some hE
    refine g_icmp_eq C0 (tgt := 23) d_River_firstOpen_18 (by decide) (fun c_ => ?_) (fun c_ => ?_)
    · replace hE := hB.1 c_
      obtain ⟨v23, e23, hE⟩ := nm_some hE
      refine g_iinc C0 1 [(1, .int v23), (0, .ref (ad 10))] d_River_firstOpen_23 rfl (by rw [e23]; rfl) (by decide) rfl ?_
      refine g_goto C0 (tgt := 2) d_River_firstOpen_26 (by decide) ?_
      refine g_sub [1, 0] (L' := [(0, .ref (ad 10)), (1, .int v23)]) rfl ?_
      exact hk1 _ (Option.some.inj hE).symm
    · replace hE := hB.2 c_
      refine g_iload_n C0 1 d_River_firstOpen_21 rfl rfl ?_
      have hq := hk2 _ (Option.some.inj hE).symm
      rw [hq]
      exact g_iret C0 hr d_River_firstOpen_22
theorem w_River_firstOpen {p : Program} {l : Launch} {e : Env} {s : State} {m : MethodId} {args : Array Value} {below : List Frame} {meth : Method} {c : Code} {K : KT} {A : Nat → Prop} (C0 : Cx p s m args meth c prog_9_method_7_code "CanoeSides$River" 2 K A) (hr : meth.sig.returnType = (Option.some Jvm.ClassFile.FieldType.int)) {ad : Nat → Nat} (N : Nat) (h : Hp) {res : Int32} (hE : K_River_firstOpen N h = some res) : G p l e rm_River_firstOpen s m args below meth c K A WRiver 2 0 0 (QI s args below K A WRiver 0 0 ad res h) 0 [(0, .ref (ad 10))] [] ad h := by
  unfold K_River_firstOpen at hE
  refine g_iconst C0 (v := 0) d_River_firstOpen_0 (by decide) ?_
  refine g_istore_n C0 [(1, .int 0), (0, .ref (ad 10))] d_River_firstOpen_1 rfl (by decide) rfl ?_
  refine g_sub [1, 0] (L' := [(0, .ref (ad 10)), (1, .int 0)]) rfl ?_
  obtain ⟨t2, z2, hE⟩ := bd_some hE
  refine loopG (fun z_ : Int32 => K_River_firstOpen_L2 N z_ h) (fun z_ : Int32 => G p l e rm_River_firstOpen s m args below meth c K A WRiver 2 0 0 _ 2 [(0, .ref (ad 10)), (1, .int z_)] [] ad h) (fun z_ : (Int32) ⊕ (Unit) => (∀ r_, z_ = .inl r_ → _ = (QI s args below K A WRiver 0 0 ad r_ h)) ∧ (∀ y_, z_ = .inr y_ → G p l e rm_River_firstOpen s m args below meth c K A WRiver 2 0 0 _ 29 [] [] ad h)) (fun z_ x_ hz k1 k2 => w_River_firstOpen_L2 C0 hr N z_ h hz k1 (fun r_ hr_ => (k2 _ hr_).1 _ rfl) (fun y_ hy_ => (k2 _ hy_).2 _ rfl)) _ _ _ z2 ?_
  refine ⟨fun r_ e_ => ?_, fun t2x e_ => ?_⟩
  · subst e_
    replace hE := el_inl hE
    exact Option.some.inj hE ▸ rfl
  · subst e_
    replace hE := el_inr hE
    try dsimp only
    refine g_iconst C0 (v := (-1)) d_River_firstOpen_29 (by decide) ?_
    obtain rfl := Option.some.inj hE
    exact g_iret C0 hr d_River_firstOpen_30
theorem m_River_firstOpen (l : Launch) (K : KT) (ad : Nat → Nat) (h : Hp) (N : Nat) {res : Int32} (hE : K_River_firstOpen N h = some res) : ConI l y_River_firstOpen prog_9_method_7_code 2 (Option.some Jvm.ClassFile.FieldType.int) rm_River_firstOpen K WRiver ad h [.ref (ad 10)] res h := fun sz =>
  con_start [(0, .ref (ad 10))] (by decide +kernel) rfl (Nat.le_of_ble_eq_true rfl) (fun p e s m args below meth c C0 hr hnm hsz => w_River_firstOpen C0 hr N h hE)
abbrev y_Reader_readSquares : MethodName := ⟨"CanoeSides$Reader", "readSquares", "()V"⟩
abbrev rm_Reader_readSquares : Room := { frames := 5, cells := 0, slots := 0, locals := 113 }
theorem cd_Reader_readSquares : cwd y_Reader_readSquares 0 := by decide +kernel
theorem d_Reader_readSquares_0 : decode prog_8_method_4_code 0 = .ok (.aload_n 0, 1) := by decide +kernel
theorem d_Reader_readSquares_1 : decode prog_8_method_4_code 1 = .ok (.iconst 1, 1) := by decide +kernel
theorem d_Reader_readSquares_2 : decode prog_8_method_4_code 2 = .ok (.bipush 8, 2) := by decide +kernel
theorem d_Reader_readSquares_4 : decode prog_8_method_4_code 4 = .ok (.invokevirtual 90, 3) := by decide +kernel
theorem d_Reader_readSquares_7 : decode prog_8_method_4_code 7 = .ok (.istore_n 1, 1) := by decide +kernel
theorem d_Reader_readSquares_8 : decode prog_8_method_4_code 8 = .ok (.aload_n 0, 1) := by decide +kernel
theorem d_Reader_readSquares_9 : decode prog_8_method_4_code 9 = .ok (.iconst 1, 1) := by decide +kernel
theorem d_Reader_readSquares_10 : decode prog_8_method_4_code 10 = .ok (.bipush 6, 2) := by decide +kernel
theorem d_Reader_readSquares_12 : decode prog_8_method_4_code 12 = .ok (.invokevirtual 90, 3) := by decide +kernel
theorem d_Reader_readSquares_15 : decode prog_8_method_4_code 15 = .ok (.istore_n 2, 1) := by decide +kernel
theorem d_Reader_readSquares_16 : decode prog_8_method_4_code 16 = .ok (.iconst 0, 1) := by decide +kernel
theorem d_Reader_readSquares_17 : decode prog_8_method_4_code 17 = .ok (.istore_n 3, 1) := by decide +kernel
theorem d_Reader_readSquares_18 : decode prog_8_method_4_code 18 = .ok (.iload_n 3, 1) := by decide +kernel
theorem d_Reader_readSquares_19 : decode prog_8_method_4_code 19 = .ok (.iload_n 2, 1) := by decide +kernel
theorem d_Reader_readSquares_20 : decode prog_8_method_4_code 20 = .ok (.if_icmp .ge 56, 3) := by decide +kernel
theorem d_Reader_readSquares_23 : decode prog_8_method_4_code 23 = .ok (.iconst 0, 1) := by decide +kernel
theorem d_Reader_readSquares_24 : decode prog_8_method_4_code 24 = .ok (.istore 4, 2) := by decide +kernel
theorem d_Reader_readSquares_26 : decode prog_8_method_4_code 26 = .ok (.iload 4, 2) := by decide +kernel
theorem d_Reader_readSquares_28 : decode prog_8_method_4_code 28 = .ok (.iload_n 1, 1) := by decide +kernel
theorem d_Reader_readSquares_29 : decode prog_8_method_4_code 29 = .ok (.if_icmp .ge 41, 3) := by decide +kernel
theorem d_Reader_readSquares_32 : decode prog_8_method_4_code 32 = .ok (.aload_n 0, 1) := by decide +kernel
theorem d_Reader_readSquares_33 : decode prog_8_method_4_code 33 = .ok (.ldc 93, 2) := by decide +kernel
theorem d_Reader_readSquares_35 : decode prog_8_method_4_code 35 = .ok (.invokevirtual 95, 3) := by decide +kernel
theorem d_Reader_readSquares_38 : decode prog_8_method_4_code 38 = .ok (.istore 5, 2) := by decide +kernel
theorem d_Reader_readSquares_40 : decode prog_8_method_4_code 40 = .ok (.aload_n 0, 1) := by decide +kernel
theorem d_Reader_readSquares_41 : decode prog_8_method_4_code 41 = .ok (.getfield 28, 3) := by decide +kernel
theorem d_Reader_readSquares_44 : decode prog_8_method_4_code 44 = .ok (.ifCond .eq 4, 3) := by decide +kernel
theorem d_Reader_readSquares_47 : decode prog_8_method_4_code 47 = .ok (.return_, 1) := by decide +kernel
theorem d_Reader_readSquares_48 : decode prog_8_method_4_code 48 = .ok (.aload_n 0, 1) := by decide +kernel
theorem d_Reader_readSquares_49 : decode prog_8_method_4_code 49 = .ok (.getfield 12, 3) := by decide +kernel
theorem d_Reader_readSquares_52 : decode prog_8_method_4_code 52 = .ok (.iload_n 3, 1) := by decide +kernel
theorem d_Reader_readSquares_53 : decode prog_8_method_4_code 53 = .ok (.bipush 8, 2) := by decide +kernel
theorem d_Reader_readSquares_55 : decode prog_8_method_4_code 55 = .ok (.imul, 1) := by decide +kernel
theorem d_Reader_readSquares_56 : decode prog_8_method_4_code 56 = .ok (.iload 4, 2) := by decide +kernel
theorem d_Reader_readSquares_58 : decode prog_8_method_4_code 58 = .ok (.iadd, 1) := by decide +kernel
theorem d_Reader_readSquares_59 : decode prog_8_method_4_code 59 = .ok (.iload 5, 2) := by decide +kernel
theorem d_Reader_readSquares_61 : decode prog_8_method_4_code 61 = .ok (.invokevirtual 99, 3) := by decide +kernel
theorem d_Reader_readSquares_64 : decode prog_8_method_4_code 64 = .ok (.iinc 4 1, 3) := by decide +kernel
theorem d_Reader_readSquares_67 : decode prog_8_method_4_code 67 = .ok (.goto (-41), 3) := by decide +kernel
theorem d_Reader_readSquares_70 : decode prog_8_method_4_code 70 = .ok (.iinc 3 1, 3) := by decide +kernel
theorem d_Reader_readSquares_73 : decode prog_8_method_4_code 73 = .ok (.goto (-55), 3) := by decide +kernel
theorem d_Reader_readSquares_76 : decode prog_8_method_4_code 76 = .ok (.aload_n 0, 1) := by decide +kernel
theorem d_Reader_readSquares_77 : decode prog_8_method_4_code 77 = .ok (.getfield 12, 3) := by decide +kernel
theorem d_Reader_readSquares_80 : decode prog_8_method_4_code 80 = .ok (.invokevirtual 102, 3) := by decide +kernel
theorem d_Reader_readSquares_83 : decode prog_8_method_4_code 83 = .ok (.istore_n 3, 1) := by decide +kernel
theorem d_Reader_readSquares_84 : decode prog_8_method_4_code 84 = .ok (.iload_n 3, 1) := by decide +kernel
theorem d_Reader_readSquares_85 : decode prog_8_method_4_code 85 = .ok (.iconst (-1), 1) := by decide +kernel
theorem d_Reader_readSquares_86 : decode prog_8_method_4_code 86 = .ok (.if_icmp .ne 14, 3) := by decide +kernel
theorem d_Reader_readSquares_89 : decode prog_8_method_4_code 89 = .ok (.aload_n 0, 1) := by decide +kernel
theorem d_Reader_readSquares_90 : decode prog_8_method_4_code 90 = .ok (.iconst 4, 1) := by decide +kernel
theorem d_Reader_readSquares_91 : decode prog_8_method_4_code 91 = .ok (.aload_n 0, 1) := by decide +kernel
theorem d_Reader_readSquares_92 : decode prog_8_method_4_code 92 = .ok (.getfield 18, 3) := by decide +kernel
theorem d_Reader_readSquares_95 : decode prog_8_method_4_code 95 = .ok (.iconst 1, 1) := by decide +kernel
theorem d_Reader_readSquares_96 : decode prog_8_method_4_code 96 = .ok (.isub, 1) := by decide +kernel
theorem d_Reader_readSquares_97 : decode prog_8_method_4_code 97 = .ok (.invokevirtual 65, 3) := by decide +kernel
theorem d_Reader_readSquares_100 : decode prog_8_method_4_code 100 = .ok (.aload_n 0, 1) := by decide +kernel
theorem d_Reader_readSquares_101 : decode prog_8_method_4_code 101 = .ok (.getfield 12, 3) := by decide +kernel
theorem d_Reader_readSquares_104 : decode prog_8_method_4_code 104 = .ok (.iload_n 1, 1) := by decide +kernel
theorem d_Reader_readSquares_105 : decode prog_8_method_4_code 105 = .ok (.putfield 105, 3) := by decide +kernel
theorem d_Reader_readSquares_108 : decode prog_8_method_4_code 108 = .ok (.aload_n 0, 1) := by decide +kernel
theorem d_Reader_readSquares_109 : decode prog_8_method_4_code 109 = .ok (.getfield 12, 3) := by decide +kernel
theorem d_Reader_readSquares_112 : decode prog_8_method_4_code 112 = .ok (.iload_n 2, 1) := by decide +kernel
theorem d_Reader_readSquares_113 : decode prog_8_method_4_code 113 = .ok (.putfield 108, 3) := by decide +kernel
theorem d_Reader_readSquares_116 : decode prog_8_method_4_code 116 = .ok (.aload_n 0, 1) := by decide +kernel
theorem d_Reader_readSquares_117 : decode prog_8_method_4_code 117 = .ok (.getfield 12, 3) := by decide +kernel
theorem d_Reader_readSquares_120 : decode prog_8_method_4_code 120 = .ok (.iload_n 3, 1) := by decide +kernel
theorem d_Reader_readSquares_121 : decode prog_8_method_4_code 121 = .ok (.bipush 8, 2) := by decide +kernel
theorem d_Reader_readSquares_123 : decode prog_8_method_4_code 123 = .ok (.imul, 1) := by decide +kernel
theorem d_Reader_readSquares_124 : decode prog_8_method_4_code 124 = .ok (.putfield 111, 3) := by decide +kernel
theorem d_Reader_readSquares_127 : decode prog_8_method_4_code 127 = .ok (.return_, 1) := by decide +kernel
theorem w_Reader_readSquares_L26 {p : Program} {l : Launch} {e : Env} {s : State} {m : MethodId} {args : Array Value} {below : List Frame} {meth : Method} {c : Code} {K : KT} {A : Nat → Prop} {Q : State → Prop} (C0 : Cx p s m args meth c prog_8_method_4_code "CanoeSides$Reader" 6 K A) (hr : meth.sig.returnType = (Option.none : Option Jvm.ClassFile.FieldType)) {ad : Nat → Nat} (N : Nat) (x1 : Int32) (x2 : Int32) (x3 : Int32) (x4 : Int32) (h : Hp) {x_ : (Int32 × Hp) ⊕ (Hp) ⊕ (Hp)} (hE : K_Reader_readSquares_L26 N x1 x2 x3 x4 h = some x_) (hk1 : ∀ z_, x_ = .inl z_ → G p l e rm_Reader_readSquares s m args below meth c K A WReader 6 0 0 Q 26 [(0, .ref (ad 70)), (1, .int x1), (2, .int x2), (3, .int x3), (4, .int z_.1)] [] ad z_.2) (hk2 : ∀ r_, x_ = .inr (.inl r_) → Q = (QV s args below K A WReader 0 0 ad r_)) (hk3 : ∀ z_, x_ = .inr (.inr z_) → G p l e rm_Reader_readSquares s m args below meth c K A WReader 6 0 0 Q 70 [(0, .ref (ad 70)), (1, .int x1), (2, .int x2), (3, .int x3)] [] ad z_) : G p l e rm_Reader_readSquares s m args below meth c K A WReader 6 0 0 Q 26 [(0, .ref (ad 70)), (1, .int x1), (2, .int x2), (3, .int x3), (4, .int x4)] [] ad h := by
  unfold K_Reader_readSquares_L26 at hE
  refine g_iload C0 4 d_Reader_readSquares_26 rfl ?_
  refine g_iload_n C0 1 d_Reader_readSquares_28 rfl rfl ?_
  have hB := ite_some hE
  refine g_icmp_ge C0 (tgt := 70) d_Reader_readSquares_29 (by decide) (fun c_ => ?_) (fun c_ => ?_)
  · replace hE := hB.1 c_
    refine g_sub [0, 1, 2, 3] (L' := [(0, .ref (ad 70)), (1, .int x1), (2, .int x2), (3, .int x3)]) rfl ?_
    exact hk3 _ (Option.some.inj hE).symm
  · replace hE := hB.2 c_
    refine g_aload_n C0 0 d_Reader_readSquares_32 rfl rfl ?_
    refine g_ldcS C0 1 (by decide) d_Reader_readSquares_33 ?_
    obtain ⟨v35, h35, z35, hE⟩ := bd2_some hE
    refine g_calli C0 nd_Reader [70, 2, 10, 11, 12] rfl (sbW_self WReader) (runV C0 (m_Reader_readOneOf l K ad h N 1 (by decide) z35) 1 rfl ⟨t_660, t_662, t_7, t_98, t_663⟩ cd_Reader_readOneOf (by decide) 0 rfl rfl (sbW_self WReader) nd_Reader rfl rfl (Nat.le_of_ble_eq_true rfl) d_Reader_readSquares_35) ?_
    refine g_mx [70, 2, 10, 11, 12] rfl ?_
    refine g_istore C0 [(5, .int v35), (0, .ref (ad 70)), (1, .int x1), (2, .int x2), (3, .int x3), (4, .int x4)] d_Reader_readSquares_38 (by decide) rfl ?_
    refine g_aload_n C0 1 d_Reader_readSquares_40 rfl rfl ?_
    refine g_geti C0 CK_6 6 (by decide) t_524 0 rfl rfl d_Reader_readSquares_41 ?_
    have hB := ite_some hE
    refine g_if_eq C0 (tgt := 48) d_Reader_readSquares_44 (by decide) (fun c_ => ?_) (fun c_ => ?_)
    · replace hE := hB.1 c_
      refine g_aload_n C0 1 d_Reader_readSquares_48 rfl rfl ?_
      refine g_getr C0 CK_6 2 (by decide) t_519 0 rfl rfl d_Reader_readSquares_49 ?_
      refine g_iload_n C0 4 d_Reader_readSquares_52 rfl rfl ?_
      refine g_bipush C0 (v := 8) d_Reader_readSquares_53 (by decide) ?_
      refine g_imul C0 d_Reader_readSquares_55 ?_
      refine g_iload C0 5 d_Reader_readSquares_56 rfl ?_
      refine g_iadd C0 d_Reader_readSquares_58 ?_
      refine g_iload C0 0 d_Reader_readSquares_59 rfl ?_
      obtain ⟨h61, z61, hE⟩ := bd_some hE
      refine g_callv C0 nd_Reader [10, 11, 12] rfl (sb_River_Reader) (runV C0 (m_River_putKind l K ad h35 ((x3 * 8) + x4) v35 z61) 2 rfl ⟨t_664, t_665, t_666, t_86, t_667⟩ cd_River_putKind (by decide) 2 rfl rfl (sb_River_Reader) nd_River rfl rfl (Nat.le_of_ble_eq_true rfl) d_Reader_readSquares_61) ?_
      obtain ⟨h61m, e61, hE⟩ := nm_some hE
      refine g_heap e61 ?_
      obtain ⟨v64, e64, hE⟩ := nm_some hE
      refine g_iinc C0 5 [(4, .int v64), (5, .int v35), (0, .ref (ad 70)), (1, .int x1), (2, .int x2), (3, .int x3)] d_Reader_readSquares_64 rfl (by rw [e64]; rfl) (by decide) rfl ?_
      refine g_goto C0 (tgt := 26) d_Reader_readSquares_67 (by decide) ?_
      refine g_sub [2, 3, 4, 5, 0] (L' := [(0, .ref (ad 70)), (1, .int x1), (2, .int x2), (3, .int x3), (4, .int v64)]) rfl ?_
      exact hk1 _ (Option.some.inj hE).symm
    · replace hE := hB.2 c_
      have hq := hk2 _ (Option.some.inj hE).symm
      rw [hq]
      exact g_vret C0 hr d_Reader_readSquares_47
theorem w_Reader_readSquares_L18 {p : Program} {l : Launch} {e : Env} {s : State} {m : MethodId} {args : Array Value} {below : List Frame} {meth : Method} {c : Code} {K : KT} {A : Nat → Prop} {Q : State → Prop} (C0 : Cx p s m args meth c prog_8_method_4_code "CanoeSides$Reader" 6 K A) (hr : meth.sig.returnType = (Option.none : Option Jvm.ClassFile.FieldType)) {ad : Nat → Nat} (N : Nat) (x1 : Int32) (x2 : Int32) (x3 : Int32) (h : Hp) {x_ : (Int32 × Hp) ⊕ (Hp) ⊕ (Hp)} (hE : K_Reader_readSquares_L18 N x1 x2 x3 h = some x_) (hk1 : ∀ z_, x_ = .inl z_ → G p l e rm_Reader_readSquares s m args below meth c K A WReader 6 0 0 Q 18 [(0, .ref (ad 70)), (1, .int x1), (2, .int x2), (3, .int z_.1)] [] ad z_.2) (hk2 : ∀ r_, x_ = .inr (.inl r_) → Q = (QV s args below K A WReader 0 0 ad r_)) (hk3 : ∀ z_, x_ = .inr (.inr z_) → G p l e rm_Reader_readSquares s m args below meth c K A WReader 6 0 0 Q 76 [(0, .ref (ad 70)), (1, .int x1), (2, .int x2)] [] ad z_) : G p l e rm_Reader_readSquares s m args below meth c K A WReader 6 0 0 Q 18 [(0, .ref (ad 70)), (1, .int x1), (2, .int x2), (3, .int x3)] [] ad h := by
  unfold K_Reader_readSquares_L18 at hE
  refine g_iload_n C0 3 d_Reader_readSquares_18 rfl rfl ?_
  refine g_iload_n C0 2 d_Reader_readSquares_19 rfl rfl ?_
  have hB := ite_some hE
  refine g_icmp_ge C0 (tgt := 76) d_Reader_readSquares_20 (by decide) (fun c_ => ?_) (fun c_ => ?_)
  · replace hE := hB.1 c_
    refine g_sub [0, 1, 2] (L' := [(0, .ref (ad 70)), (1, .int x1), (2, .int x2)]) rfl ?_
    exact hk3 _ (Option.some.inj hE).symm
  · replace hE := hB.2 c_
    refine g_iconst C0 (v := 0) d_Reader_readSquares_23 (by decide) ?_
    refine g_istore C0 [(4, .int 0), (0, .ref (ad 70)), (1, .int x1), (2, .int x2), (3, .int x3)] d_Reader_readSquares_24 (by decide) rfl ?_
    refine g_sub [1, 2, 3, 4, 0] (L' := [(0, .ref (ad 70)), (1, .int x1), (2, .int x2), (3, .int x3), (4, .int 0)]) rfl ?_
    obtain ⟨t26, z26, hE⟩ := bd_some hE
    refine loopG (fun z_ : Int32 × Hp => K_Reader_readSquares_L26 N x1 x2 x3 z_.1 z_.2) (fun z_ : Int32 × Hp => G p l e rm_Reader_readSquares s m args below meth c K A WReader 6 0 0 _ 26 [(0, .ref (ad 70)), (1, .int x1), (2, .int x2), (3, .int x3), (4, .int z_.1)] [] ad z_.2) (fun z_ : (Hp) ⊕ (Hp) => (∀ r_, z_ = .inl r_ → _ = (QV s args below K A WReader 0 0 ad r_)) ∧ (∀ y_, z_ = .inr y_ → G p l e rm_Reader_readSquares s m args below meth c K A WReader 6 0 0 _ 70 [(0, .ref (ad 70)), (1, .int x1), (2, .int x2), (3, .int x3)] [] ad y_)) (fun z_ x_ hz k1 k2 => w_Reader_readSquares_L26 C0 hr N x1 x2 x3 z_.1 z_.2 hz k1 (fun r_ hr_ => (k2 _ hr_).1 _ rfl) (fun y_ hy_ => (k2 _ hy_).2 _ rfl)) _ _ _ z26 ?_
    refine ⟨fun r_ e_ => ?_, fun t26x e_ => ?_⟩
    · subst e_
      replace hE := el_inl hE
      exact hk2 _ (Option.some.inj hE).symm
    · subst e_
      replace hE := el_inr hE
      try dsimp only
      obtain ⟨v70, e70, hE⟩ := nm_some hE
      refine g_iinc C0 3 [(3, .int v70), (0, .ref (ad 70)), (1, .int x1), (2, .int x2)] d_Reader_readSquares_70 rfl (by rw [e70]; rfl) (by decide) rfl ?_
      refine g_goto C0 (tgt := 18) d_Reader_readSquares_73 (by decide) ?_
      refine g_sub [1, 2, 3, 0] (L' := [(0, .ref (ad 70)), (1, .int x1), (2, .int x2), (3, .int v70)]) rfl ?_
      exact hk1 _ (Option.some.inj hE).symm
theorem w_Reader_readSquares_J100 {p : Program} {l : Launch} {e : Env} {s : State} {m : MethodId} {args : Array Value} {below : List Frame} {meth : Method} {c : Code} {K : KT} {A : Nat → Prop} (C0 : Cx p s m args meth c prog_8_method_4_code "CanoeSides$Reader" 6 K A) (hr : meth.sig.returnType = (Option.none : Option Jvm.ClassFile.FieldType)) {ad : Nat → Nat} (N : Nat) (x1 : Int32) (x2 : Int32) (x3 : Int32) (h : Hp) {res : Hp} (hE : K_Reader_readSquares_J100 N x1 x2 x3 h = some res) : G p l e rm_Reader_readSquares s m args below meth c K A WReader 6 0 0 (QV s args below K A WReader 0 0 ad res) 100 [(0, .ref (ad 70)), (1, .int x1), (2, .int x2), (3, .int x3)] [] ad h := by
  unfold K_Reader_readSquares_J100 at hE
  refine g_aload_n C0 0 d_Reader_readSquares_100 rfl rfl ?_
  refine g_getr C0 CK_6 2 (by decide) t_519 0 rfl rfl d_Reader_readSquares_101 ?_
  refine g_iload_n C0 1 d_Reader_readSquares_104 rfl rfl ?_
  obtain ⟨h105, e105, hE⟩ := nm_some hE
  refine g_putiN C0 CK_7 CT_7 0 (by decide) t_123 rfl (by decide +kernel) nd_Reader 2 rfl rfl d_Reader_readSquares_105 ?_
  refine g_heap e105 ?_
  refine g_aload_n C0 0 d_Reader_readSquares_108 rfl rfl ?_
  refine g_getr C0 CK_6 2 (by decide) t_519 0 rfl rfl d_Reader_readSquares_109 ?_
  refine g_iload_n C0 2 d_Reader_readSquares_112 rfl rfl ?_
  obtain ⟨h113, e113, hE⟩ := nm_some hE
  refine g_putiN C0 CK_7 CT_7 1 (by decide) t_126 rfl (by decide +kernel) nd_Reader 2 rfl rfl d_Reader_readSquares_113 ?_
  refine g_heap e113 ?_
  refine g_aload_n C0 0 d_Reader_readSquares_116 rfl rfl ?_
  refine g_getr C0 CK_6 2 (by decide) t_519 0 rfl rfl d_Reader_readSquares_117 ?_
  refine g_iload_n C0 3 d_Reader_readSquares_120 rfl rfl ?_
  refine g_bipush C0 (v := 8) d_Reader_readSquares_121 (by decide) ?_
  refine g_imul C0 d_Reader_readSquares_123 ?_
  obtain ⟨h124, e124, hE⟩ := nm_some hE
  refine g_putiN C0 CK_7 CT_7 7 (by decide) t_145 rfl (by decide +kernel) nd_Reader 2 rfl rfl d_Reader_readSquares_124 ?_
  refine g_heap e124 ?_
  obtain rfl := Option.some.inj hE
  exact g_vret C0 hr d_Reader_readSquares_127
theorem w_Reader_readSquares {p : Program} {l : Launch} {e : Env} {s : State} {m : MethodId} {args : Array Value} {below : List Frame} {meth : Method} {c : Code} {K : KT} {A : Nat → Prop} (C0 : Cx p s m args meth c prog_8_method_4_code "CanoeSides$Reader" 6 K A) (hr : meth.sig.returnType = (Option.none : Option Jvm.ClassFile.FieldType)) {ad : Nat → Nat} (N : Nat) (h : Hp) {res : Hp} (hE : K_Reader_readSquares N h = some res) : G p l e rm_Reader_readSquares s m args below meth c K A WReader 6 0 0 (QV s args below K A WReader 0 0 ad res) 0 [(0, .ref (ad 70))] [] ad h := by
  unfold K_Reader_readSquares at hE
  refine g_aload_n C0 0 d_Reader_readSquares_0 rfl rfl ?_
  refine g_iconst C0 (v := 1) d_Reader_readSquares_1 (by decide) ?_
  refine g_bipush C0 (v := 8) d_Reader_readSquares_2 (by decide) ?_
  obtain ⟨v4, h4, z4, hE⟩ := bd2_some hE
  refine g_calli C0 nd_Reader [70, 2, 10, 11, 12] rfl (sbW_self WReader) (runV C0 (m_Reader_readNumber l K ad h N 1 8 z4) 2 rfl ⟨t_652, t_654, t_6, t_98, t_655⟩ cd_Reader_readNumber (by decide) 0 rfl rfl (sbW_self WReader) nd_Reader rfl rfl (Nat.le_of_ble_eq_true rfl) d_Reader_readSquares_4) ?_
  refine g_mx [70, 2, 10, 11, 12] rfl ?_
  refine g_istore_n C0 [(1, .int v4), (0, .ref (ad 70))] d_Reader_readSquares_7 rfl (by decide) rfl ?_
  refine g_aload_n C0 1 d_Reader_readSquares_8 rfl rfl ?_
  refine g_iconst C0 (v := 1) d_Reader_readSquares_9 (by decide) ?_
  refine g_bipush C0 (v := 6) d_Reader_readSquares_10 (by decide) ?_
  obtain ⟨v12, h12, z12, hE⟩ := bd2_some hE
  refine g_calli C0 nd_Reader [70, 2, 10, 11, 12] rfl (sbW_self WReader) (runV C0 (m_Reader_readNumber l K ad h4 N 1 6 z12) 2 rfl ⟨t_652, t_654, t_6, t_98, t_655⟩ cd_Reader_readNumber (by decide) 0 rfl rfl (sbW_self WReader) nd_Reader rfl rfl (Nat.le_of_ble_eq_true rfl) d_Reader_readSquares_12) ?_
  refine g_mx [70, 2, 10, 11, 12] rfl ?_
  refine g_istore_n C0 [(2, .int v12), (1, .int v4), (0, .ref (ad 70))] d_Reader_readSquares_15 rfl (by decide) rfl ?_
  refine g_iconst C0 (v := 0) d_Reader_readSquares_16 (by decide) ?_
  refine g_istore_n C0 [(3, .int 0), (2, .int v12), (1, .int v4), (0, .ref (ad 70))] d_Reader_readSquares_17 rfl (by decide) rfl ?_
  refine g_sub [3, 2, 1, 0] (L' := [(0, .ref (ad 70)), (1, .int v4), (2, .int v12), (3, .int 0)]) rfl ?_
  obtain ⟨t18, z18, hE⟩ := bd_some hE
  refine loopG (fun z_ : Int32 × Hp => K_Reader_readSquares_L18 N v4 v12 z_.1 z_.2) (fun z_ : Int32 × Hp => G p l e rm_Reader_readSquares s m args below meth c K A WReader 6 0 0 _ 18 [(0, .ref (ad 70)), (1, .int v4), (2, .int v12), (3, .int z_.1)] [] ad z_.2) (fun z_ : (Hp) ⊕ (Hp) => (∀ r_, z_ = .inl r_ → _ = (QV s args below K A WReader 0 0 ad r_)) ∧ (∀ y_, z_ = .inr y_ → G p l e rm_Reader_readSquares s m args below meth c K A WReader 6 0 0 _ 76 [(0, .ref (ad 70)), (1, .int v4), (2, .int v12)] [] ad y_)) (fun z_ x_ hz k1 k2 => w_Reader_readSquares_L18 C0 hr N v4 v12 z_.1 z_.2 hz k1 (fun r_ hr_ => (k2 _ hr_).1 _ rfl) (fun y_ hy_ => (k2 _ hy_).2 _ rfl)) _ _ _ z18 ?_
  refine ⟨fun r_ e_ => ?_, fun t18x e_ => ?_⟩
  · subst e_
    replace hE := el_inl hE
    exact Option.some.inj hE ▸ rfl
  · subst e_
    replace hE := el_inr hE
    try dsimp only
    refine g_aload_n C0 0 d_Reader_readSquares_76 rfl rfl ?_
    refine g_getr C0 CK_6 2 (by decide) t_519 0 rfl rfl d_Reader_readSquares_77 ?_
    obtain ⟨v80, z80, hE⟩ := bd_some hE
    refine g_calliP C0 nd_Reader [10, 11, 12] rfl (sb_River_Reader) (runV C0 (m_River_firstOpen l K ad t18x N z80) 0 rfl ⟨t_668, t_669, t_670, t_86, t_671⟩ cd_River_firstOpen (by decide) 2 rfl rfl (sb_River_Reader) nd_River rfl rfl (Nat.le_of_ble_eq_true rfl) d_Reader_readSquares_80) ?_
    refine g_istore_n C0 [(3, .int v80), (0, .ref (ad 70)), (1, .int v4), (2, .int v12)] d_Reader_readSquares_83 rfl (by decide) rfl ?_
    refine g_iload_n C0 0 d_Reader_readSquares_84 rfl rfl ?_
    refine g_iconst C0 (v := (-1)) d_Reader_readSquares_85 (by decide) ?_
    have hB := ite_some hE
    refine g_icmp_ne C0 (tgt := 100) d_Reader_readSquares_86 (by decide) (fun c_ => ?_) (fun c_ => ?_)
    · replace hE := hB.2 c_
      refine g_sub [1, 2, 3, 0] (L' := [(0, .ref (ad 70)), (1, .int v4), (2, .int v12), (3, .int v80)]) rfl ?_
      exact w_Reader_readSquares_J100 C0 hr N v4 v12 v80 t18x hE
    · replace hE := hB.1 c_
      refine g_aload_n C0 1 d_Reader_readSquares_89 rfl rfl ?_
      refine g_iconst C0 (v := 4) d_Reader_readSquares_90 (by decide) ?_
      refine g_aload_n C0 1 d_Reader_readSquares_91 rfl rfl ?_
      refine g_geti C0 CK_6 3 (by decide) t_521 0 rfl rfl d_Reader_readSquares_92 ?_
      refine g_iconst C0 (v := 1) d_Reader_readSquares_95 (by decide) ?_
      refine g_isub C0 d_Reader_readSquares_96 ?_
      obtain ⟨h97, z97, hE⟩ := bd_some hE
      refine g_callv C0 nd_Reader [70, 2, 10, 11, 12] rfl (sbW_self WReader) (runV C0 (m_Reader_fail l K ad t18x 4 ((t18x 70 3) - 1) z97) 2 rfl ⟨t_644, t_646, t_4, t_98, t_647⟩ cd_Reader_fail (by decide) 0 rfl rfl (sbW_self WReader) nd_Reader rfl rfl (Nat.le_of_ble_eq_true rfl) d_Reader_readSquares_97) ?_
      refine g_mx [70, 2, 10, 11, 12] rfl ?_
      refine g_sub [1, 2, 3, 0] (L' := [(0, .ref (ad 70)), (1, .int v4), (2, .int v12), (3, .int v80)]) rfl ?_
      exact w_Reader_readSquares_J100 C0 hr N v4 v12 v80 h97 hE
theorem m_Reader_readSquares (l : Launch) (K : KT) (ad : Nat → Nat) (h : Hp) (N : Nat) {res : Hp} (hE : K_Reader_readSquares N h = some res) : ConV l y_Reader_readSquares prog_8_method_4_code 6 (Option.none : Option Jvm.ClassFile.FieldType) rm_Reader_readSquares K WReader ad h [.ref (ad 70)] res := fun sz =>
  con_start [(0, .ref (ad 70))] (by decide +kernel) rfl (Nat.le_of_ble_eq_true rfl) (fun p e s m args below meth c C0 hr hnm hsz => w_Reader_readSquares C0 hr N h hE)
abbrev y_Reader_readStrengths : MethodName := ⟨"CanoeSides$Reader", "readStrengths", "()V"⟩
abbrev rm_Reader_readStrengths : Room := { frames := 2, cells := 0, slots := 0, locals := 46 }
theorem cd_Reader_readStrengths : cwd y_Reader_readStrengths 0 := by decide +kernel
theorem d_Reader_readStrengths_0 : decode prog_8_method_5_code 0 = .ok (.aload_n 0, 1) := by decide +kernel
theorem d_Reader_readStrengths_1 : decode prog_8_method_5_code 1 = .ok (.getfield 12, 3) := by decide +kernel
theorem d_Reader_readStrengths_4 : decode prog_8_method_5_code 4 = .ok (.aload_n 0, 1) := by decide +kernel
theorem d_Reader_readStrengths_5 : decode prog_8_method_5_code 5 = .ok (.iconst 1, 1) := by decide +kernel
theorem d_Reader_readStrengths_6 : decode prog_8_method_5_code 6 = .ok (.bipush 9, 2) := by decide +kernel
theorem d_Reader_readStrengths_8 : decode prog_8_method_5_code 8 = .ok (.invokevirtual 90, 3) := by decide +kernel
theorem d_Reader_readStrengths_11 : decode prog_8_method_5_code 11 = .ok (.putfield 114, 3) := by decide +kernel
theorem d_Reader_readStrengths_14 : decode prog_8_method_5_code 14 = .ok (.aload_n 0, 1) := by decide +kernel
theorem d_Reader_readStrengths_15 : decode prog_8_method_5_code 15 = .ok (.getfield 12, 3) := by decide +kernel
theorem d_Reader_readStrengths_18 : decode prog_8_method_5_code 18 = .ok (.aload_n 0, 1) := by decide +kernel
theorem d_Reader_readStrengths_19 : decode prog_8_method_5_code 19 = .ok (.iconst 1, 1) := by decide +kernel
theorem d_Reader_readStrengths_20 : decode prog_8_method_5_code 20 = .ok (.bipush 9, 2) := by decide +kernel
theorem d_Reader_readStrengths_22 : decode prog_8_method_5_code 22 = .ok (.invokevirtual 90, 3) := by decide +kernel
theorem d_Reader_readStrengths_25 : decode prog_8_method_5_code 25 = .ok (.putfield 117, 3) := by decide +kernel
theorem d_Reader_readStrengths_28 : decode prog_8_method_5_code 28 = .ok (.aload_n 0, 1) := by decide +kernel
theorem d_Reader_readStrengths_29 : decode prog_8_method_5_code 29 = .ok (.getfield 12, 3) := by decide +kernel
theorem d_Reader_readStrengths_32 : decode prog_8_method_5_code 32 = .ok (.aload_n 0, 1) := by decide +kernel
theorem d_Reader_readStrengths_33 : decode prog_8_method_5_code 33 = .ok (.iconst 1, 1) := by decide +kernel
theorem d_Reader_readStrengths_34 : decode prog_8_method_5_code 34 = .ok (.bipush 20, 2) := by decide +kernel
theorem d_Reader_readStrengths_36 : decode prog_8_method_5_code 36 = .ok (.invokevirtual 90, 3) := by decide +kernel
theorem d_Reader_readStrengths_39 : decode prog_8_method_5_code 39 = .ok (.putfield 120, 3) := by decide +kernel
theorem d_Reader_readStrengths_42 : decode prog_8_method_5_code 42 = .ok (.aload_n 0, 1) := by decide +kernel
theorem d_Reader_readStrengths_43 : decode prog_8_method_5_code 43 = .ok (.getfield 12, 3) := by decide +kernel
theorem d_Reader_readStrengths_46 : decode prog_8_method_5_code 46 = .ok (.aload_n 0, 1) := by decide +kernel
theorem d_Reader_readStrengths_47 : decode prog_8_method_5_code 47 = .ok (.iconst 1, 1) := by decide +kernel
theorem d_Reader_readStrengths_48 : decode prog_8_method_5_code 48 = .ok (.bipush 20, 2) := by decide +kernel
theorem d_Reader_readStrengths_50 : decode prog_8_method_5_code 50 = .ok (.invokevirtual 90, 3) := by decide +kernel
theorem d_Reader_readStrengths_53 : decode prog_8_method_5_code 53 = .ok (.putfield 123, 3) := by decide +kernel
theorem d_Reader_readStrengths_56 : decode prog_8_method_5_code 56 = .ok (.return_, 1) := by decide +kernel
theorem w_Reader_readStrengths {p : Program} {l : Launch} {e : Env} {s : State} {m : MethodId} {args : Array Value} {below : List Frame} {meth : Method} {c : Code} {K : KT} {A : Nat → Prop} (C0 : Cx p s m args meth c prog_8_method_5_code "CanoeSides$Reader" 1 K A) (hr : meth.sig.returnType = (Option.none : Option Jvm.ClassFile.FieldType)) {ad : Nat → Nat} (N : Nat) (h : Hp) {res : Hp} (hE : K_Reader_readStrengths N h = some res) : G p l e rm_Reader_readStrengths s m args below meth c K A WReader 1 0 0 (QV s args below K A WReader 0 0 ad res) 0 [(0, .ref (ad 70))] [] ad h := by
  unfold K_Reader_readStrengths at hE
  refine g_aload_n C0 0 d_Reader_readStrengths_0 rfl rfl ?_
  refine g_getr C0 CK_6 2 (by decide) t_519 0 rfl rfl d_Reader_readStrengths_1 ?_
  refine g_aload_n C0 0 d_Reader_readStrengths_4 rfl rfl ?_
  refine g_iconst C0 (v := 1) d_Reader_readStrengths_5 (by decide) ?_
  refine g_bipush C0 (v := 9) d_Reader_readStrengths_6 (by decide) ?_
  obtain ⟨v8, h8, z8, hE⟩ := bd2_some hE
  refine g_calli C0 nd_Reader [70, 2, 10, 11, 12] rfl (sbW_self WReader) (runV C0 (m_Reader_readNumber l K ad h N 1 9 z8) 2 rfl ⟨t_652, t_654, t_6, t_98, t_655⟩ cd_Reader_readNumber (by decide) 0 rfl rfl (sbW_self WReader) nd_Reader rfl rfl (Nat.le_of_ble_eq_true rfl) d_Reader_readStrengths_8) ?_
  refine g_mx [70, 2, 10, 11, 12] rfl ?_
  obtain ⟨h11, e11, hE⟩ := nm_some hE
  refine g_putiN C0 CK_7 CT_7 3 (by decide) t_130 rfl (by decide +kernel) nd_Reader 2 rfl rfl d_Reader_readStrengths_11 ?_
  refine g_heap e11 ?_
  refine g_aload_n C0 0 d_Reader_readStrengths_14 rfl rfl ?_
  refine g_getr C0 CK_6 2 (by decide) t_519 0 rfl rfl d_Reader_readStrengths_15 ?_
  refine g_aload_n C0 0 d_Reader_readStrengths_18 rfl rfl ?_
  refine g_iconst C0 (v := 1) d_Reader_readStrengths_19 (by decide) ?_
  refine g_bipush C0 (v := 9) d_Reader_readStrengths_20 (by decide) ?_
  obtain ⟨v22, h22, z22, hE⟩ := bd2_some hE
  refine g_calli C0 nd_Reader [70, 2, 10, 11, 12] rfl (sbW_self WReader) (runV C0 (m_Reader_readNumber l K ad h11 N 1 9 z22) 2 rfl ⟨t_652, t_654, t_6, t_98, t_655⟩ cd_Reader_readNumber (by decide) 0 rfl rfl (sbW_self WReader) nd_Reader rfl rfl (Nat.le_of_ble_eq_true rfl) d_Reader_readStrengths_22) ?_
  refine g_mx [70, 2, 10, 11, 12] rfl ?_
  obtain ⟨h25, e25, hE⟩ := nm_some hE
  refine g_putiN C0 CK_7 CT_7 4 (by decide) t_134 rfl (by decide +kernel) nd_Reader 2 rfl rfl d_Reader_readStrengths_25 ?_
  refine g_heap e25 ?_
  refine g_aload_n C0 0 d_Reader_readStrengths_28 rfl rfl ?_
  refine g_getr C0 CK_6 2 (by decide) t_519 0 rfl rfl d_Reader_readStrengths_29 ?_
  refine g_aload_n C0 0 d_Reader_readStrengths_32 rfl rfl ?_
  refine g_iconst C0 (v := 1) d_Reader_readStrengths_33 (by decide) ?_
  refine g_bipush C0 (v := 20) d_Reader_readStrengths_34 (by decide) ?_
  obtain ⟨v36, h36, z36, hE⟩ := bd2_some hE
  refine g_calli C0 nd_Reader [70, 2, 10, 11, 12] rfl (sbW_self WReader) (runV C0 (m_Reader_readNumber l K ad h25 N 1 20 z36) 2 rfl ⟨t_652, t_654, t_6, t_98, t_655⟩ cd_Reader_readNumber (by decide) 0 rfl rfl (sbW_self WReader) nd_Reader rfl rfl (Nat.le_of_ble_eq_true rfl) d_Reader_readStrengths_36) ?_
  refine g_mx [70, 2, 10, 11, 12] rfl ?_
  obtain ⟨h39, e39, hE⟩ := nm_some hE
  refine g_putiN C0 CK_7 CT_7 5 (by decide) t_138 rfl (by decide +kernel) nd_Reader 2 rfl rfl d_Reader_readStrengths_39 ?_
  refine g_heap e39 ?_
  refine g_aload_n C0 0 d_Reader_readStrengths_42 rfl rfl ?_
  refine g_getr C0 CK_6 2 (by decide) t_519 0 rfl rfl d_Reader_readStrengths_43 ?_
  refine g_aload_n C0 0 d_Reader_readStrengths_46 rfl rfl ?_
  refine g_iconst C0 (v := 1) d_Reader_readStrengths_47 (by decide) ?_
  refine g_bipush C0 (v := 20) d_Reader_readStrengths_48 (by decide) ?_
  obtain ⟨v50, h50, z50, hE⟩ := bd2_some hE
  refine g_calli C0 nd_Reader [70, 2, 10, 11, 12] rfl (sbW_self WReader) (runV C0 (m_Reader_readNumber l K ad h39 N 1 20 z50) 2 rfl ⟨t_652, t_654, t_6, t_98, t_655⟩ cd_Reader_readNumber (by decide) 0 rfl rfl (sbW_self WReader) nd_Reader rfl rfl (Nat.le_of_ble_eq_true rfl) d_Reader_readStrengths_50) ?_
  refine g_mx [70, 2, 10, 11, 12] rfl ?_
  obtain ⟨h53, e53, hE⟩ := nm_some hE
  refine g_putiN C0 CK_7 CT_7 6 (by decide) t_142 rfl (by decide +kernel) nd_Reader 2 rfl rfl d_Reader_readStrengths_53 ?_
  refine g_heap e53 ?_
  obtain rfl := Option.some.inj hE
  exact g_vret C0 hr d_Reader_readStrengths_56
theorem m_Reader_readStrengths (l : Launch) (K : KT) (ad : Nat → Nat) (h : Hp) (N : Nat) {res : Hp} (hE : K_Reader_readStrengths N h = some res) : ConV l y_Reader_readStrengths prog_8_method_5_code 1 (Option.none : Option Jvm.ClassFile.FieldType) rm_Reader_readStrengths K WReader ad h [.ref (ad 70)] res := fun sz =>
  con_start [(0, .ref (ad 70))] (by decide +kernel) rfl (Nat.le_of_ble_eq_true rfl) (fun p e s m args below meth c C0 hr hnm hsz => w_Reader_readStrengths C0 hr N h hE)
abbrev y_Reader_readSquare : MethodName := ⟨"CanoeSides$Reader", "readSquare", "()I"⟩
abbrev rm_Reader_readSquare : Room := { frames := 2, cells := 0, slots := 0, locals := 46 }
theorem cd_Reader_readSquare : cwd y_Reader_readSquare 0 := by decide +kernel
theorem d_Reader_readSquare_0 : decode prog_8_method_10_code 0 = .ok (.aload_n 0, 1) := by decide +kernel
theorem d_Reader_readSquare_1 : decode prog_8_method_10_code 1 = .ok (.iconst 0, 1) := by decide +kernel
theorem d_Reader_readSquare_2 : decode prog_8_method_10_code 2 = .ok (.aload_n 0, 1) := by decide +kernel
theorem d_Reader_readSquare_3 : decode prog_8_method_10_code 3 = .ok (.getfield 12, 3) := by decide +kernel
theorem d_Reader_readSquare_6 : decode prog_8_method_10_code 6 = .ok (.getfield 105, 3) := by decide +kernel
theorem d_Reader_readSquare_9 : decode prog_8_method_10_code 9 = .ok (.iconst 1, 1) := by decide +kernel
theorem d_Reader_readSquare_10 : decode prog_8_method_10_code 10 = .ok (.isub, 1) := by decide +kernel
theorem d_Reader_readSquare_11 : decode prog_8_method_10_code 11 = .ok (.invokevirtual 90, 3) := by decide +kernel
theorem d_Reader_readSquare_14 : decode prog_8_method_10_code 14 = .ok (.istore_n 1, 1) := by decide +kernel
theorem d_Reader_readSquare_15 : decode prog_8_method_10_code 15 = .ok (.aload_n 0, 1) := by decide +kernel
theorem d_Reader_readSquare_16 : decode prog_8_method_10_code 16 = .ok (.iconst 0, 1) := by decide +kernel
theorem d_Reader_readSquare_17 : decode prog_8_method_10_code 17 = .ok (.aload_n 0, 1) := by decide +kernel
theorem d_Reader_readSquare_18 : decode prog_8_method_10_code 18 = .ok (.getfield 12, 3) := by decide +kernel
theorem d_Reader_readSquare_21 : decode prog_8_method_10_code 21 = .ok (.getfield 108, 3) := by decide +kernel
theorem d_Reader_readSquare_24 : decode prog_8_method_10_code 24 = .ok (.iconst 1, 1) := by decide +kernel
theorem d_Reader_readSquare_25 : decode prog_8_method_10_code 25 = .ok (.isub, 1) := by decide +kernel
theorem d_Reader_readSquare_26 : decode prog_8_method_10_code 26 = .ok (.invokevirtual 90, 3) := by decide +kernel
theorem d_Reader_readSquare_29 : decode prog_8_method_10_code 29 = .ok (.istore_n 2, 1) := by decide +kernel
theorem d_Reader_readSquare_30 : decode prog_8_method_10_code 30 = .ok (.iload_n 2, 1) := by decide +kernel
theorem d_Reader_readSquare_31 : decode prog_8_method_10_code 31 = .ok (.bipush 8, 2) := by decide +kernel
theorem d_Reader_readSquare_33 : decode prog_8_method_10_code 33 = .ok (.imul, 1) := by decide +kernel
theorem d_Reader_readSquare_34 : decode prog_8_method_10_code 34 = .ok (.iload_n 1, 1) := by decide +kernel
theorem d_Reader_readSquare_35 : decode prog_8_method_10_code 35 = .ok (.iadd, 1) := by decide +kernel
theorem d_Reader_readSquare_36 : decode prog_8_method_10_code 36 = .ok (.istore_n 3, 1) := by decide +kernel
theorem d_Reader_readSquare_37 : decode prog_8_method_10_code 37 = .ok (.aload_n 0, 1) := by decide +kernel
theorem d_Reader_readSquare_38 : decode prog_8_method_10_code 38 = .ok (.getfield 12, 3) := by decide +kernel
theorem d_Reader_readSquare_41 : decode prog_8_method_10_code 41 = .ok (.iload_n 3, 1) := by decide +kernel
theorem d_Reader_readSquare_42 : decode prog_8_method_10_code 42 = .ok (.invokevirtual 146, 3) := by decide +kernel
theorem d_Reader_readSquare_45 : decode prog_8_method_10_code 45 = .ok (.iconst 1, 1) := by decide +kernel
theorem d_Reader_readSquare_46 : decode prog_8_method_10_code 46 = .ok (.if_icmp .ne 12, 3) := by decide +kernel
theorem d_Reader_readSquare_49 : decode prog_8_method_10_code 49 = .ok (.aload_n 0, 1) := by decide +kernel
theorem d_Reader_readSquare_50 : decode prog_8_method_10_code 50 = .ok (.iconst 4, 1) := by decide +kernel
theorem d_Reader_readSquare_51 : decode prog_8_method_10_code 51 = .ok (.aload_n 0, 1) := by decide +kernel
theorem d_Reader_readSquare_52 : decode prog_8_method_10_code 52 = .ok (.getfield 25, 3) := by decide +kernel
theorem d_Reader_readSquare_55 : decode prog_8_method_10_code 55 = .ok (.invokevirtual 65, 3) := by decide +kernel
theorem d_Reader_readSquare_58 : decode prog_8_method_10_code 58 = .ok (.iload_n 3, 1) := by decide +kernel
theorem d_Reader_readSquare_59 : decode prog_8_method_10_code 59 = .ok (.ireturn, 1) := by decide +kernel
theorem w_Reader_readSquare {p : Program} {l : Launch} {e : Env} {s : State} {m : MethodId} {args : Array Value} {below : List Frame} {meth : Method} {c : Code} {K : KT} {A : Nat → Prop} (C0 : Cx p s m args meth c prog_8_method_10_code "CanoeSides$Reader" 4 K A) (hr : meth.sig.returnType = (Option.some Jvm.ClassFile.FieldType.int)) {ad : Nat → Nat} (N : Nat) (h : Hp) {res : Int32 × Hp} (hE : K_Reader_readSquare N h = some res) : G p l e rm_Reader_readSquare s m args below meth c K A WReader 4 0 0 (QI s args below K A WReader 0 0 ad res.1 res.2) 0 [(0, .ref (ad 70))] [] ad h := by
  unfold K_Reader_readSquare at hE
  refine g_aload_n C0 0 d_Reader_readSquare_0 rfl rfl ?_
  refine g_iconst C0 (v := 0) d_Reader_readSquare_1 (by decide) ?_
  refine g_aload_n C0 0 d_Reader_readSquare_2 rfl rfl ?_
  refine g_getr C0 CK_6 2 (by decide) t_519 0 rfl rfl d_Reader_readSquare_3 ?_
  refine g_getiN C0 CK_7 0 (by decide) t_123 2 rfl rfl d_Reader_readSquare_6 ?_
  refine g_iconst C0 (v := 1) d_Reader_readSquare_9 (by decide) ?_
  refine g_isub C0 d_Reader_readSquare_10 ?_
  obtain ⟨v11, h11, z11, hE⟩ := bd2_some hE
  refine g_calli C0 nd_Reader [70, 2, 10, 11, 12] rfl (sbW_self WReader) (runV C0 (m_Reader_readNumber l K ad h N 0 ((h 10 0) - 1) z11) 2 rfl ⟨t_652, t_654, t_6, t_98, t_655⟩ cd_Reader_readNumber (by decide) 0 rfl rfl (sbW_self WReader) nd_Reader rfl rfl (Nat.le_of_ble_eq_true rfl) d_Reader_readSquare_11) ?_
  refine g_mx [70, 2, 10, 11, 12] rfl ?_
  refine g_istore_n C0 [(1, .int v11), (0, .ref (ad 70))] d_Reader_readSquare_14 rfl (by decide) rfl ?_
  refine g_aload_n C0 1 d_Reader_readSquare_15 rfl rfl ?_
  refine g_iconst C0 (v := 0) d_Reader_readSquare_16 (by decide) ?_
  refine g_aload_n C0 1 d_Reader_readSquare_17 rfl rfl ?_
  refine g_getr C0 CK_6 2 (by decide) t_519 0 rfl rfl d_Reader_readSquare_18 ?_
  refine g_getiN C0 CK_7 1 (by decide) t_126 2 rfl rfl d_Reader_readSquare_21 ?_
  refine g_iconst C0 (v := 1) d_Reader_readSquare_24 (by decide) ?_
  refine g_isub C0 d_Reader_readSquare_25 ?_
  obtain ⟨v26, h26, z26, hE⟩ := bd2_some hE
  refine g_calli C0 nd_Reader [70, 2, 10, 11, 12] rfl (sbW_self WReader) (runV C0 (m_Reader_readNumber l K ad h11 N 0 ((h11 10 1) - 1) z26) 2 rfl ⟨t_652, t_654, t_6, t_98, t_655⟩ cd_Reader_readNumber (by decide) 0 rfl rfl (sbW_self WReader) nd_Reader rfl rfl (Nat.le_of_ble_eq_true rfl) d_Reader_readSquare_26) ?_
  refine g_mx [70, 2, 10, 11, 12] rfl ?_
  refine g_istore_n C0 [(2, .int v26), (1, .int v11), (0, .ref (ad 70))] d_Reader_readSquare_29 rfl (by decide) rfl ?_
  refine g_iload_n C0 0 d_Reader_readSquare_30 rfl rfl ?_
  refine g_bipush C0 (v := 8) d_Reader_readSquare_31 (by decide) ?_
  refine g_imul C0 d_Reader_readSquare_33 ?_
  refine g_iload_n C0 1 d_Reader_readSquare_34 rfl rfl ?_
  refine g_iadd C0 d_Reader_readSquare_35 ?_
  obtain ⟨v36, e36, hE⟩ := nm_some hE
  refine g_top e36 ?_
  refine g_istore_n C0 [(3, .int v36), (2, .int v26), (1, .int v11), (0, .ref (ad 70))] d_Reader_readSquare_36 rfl (by decide) rfl ?_
  refine g_aload_n C0 3 d_Reader_readSquare_37 rfl rfl ?_
  refine g_getr C0 CK_6 2 (by decide) t_519 0 rfl rfl d_Reader_readSquare_38 ?_
  refine g_iload_n C0 0 d_Reader_readSquare_41 rfl rfl ?_
  obtain ⟨v42, z42, hE⟩ := bd_some hE
  refine g_calliP C0 nd_Reader [10, 11, 12] rfl (sb_River_Reader) (runV C0 (m_River_kindOf l K ad h26 v36 z42) 1 rfl ⟨t_684, t_408, t_409, t_86, t_410⟩ cd_River_kindOf (by decide) 2 rfl rfl (sb_River_Reader) nd_River rfl rfl (Nat.le_of_ble_eq_true rfl) d_Reader_readSquare_42) ?_
  refine g_iconst C0 (v := 1) d_Reader_readSquare_45 (by decide) ?_
  have hB := ite_some hE
  refine g_icmp_ne C0 (tgt := 58) d_Reader_readSquare_46 (by decide) (fun c_ => ?_) (fun c_ => ?_)
  · replace hE := hB.2 c_
    refine g_iload_n C0 0 d_Reader_readSquare_58 rfl rfl ?_
    obtain rfl := Option.some.inj hE
    exact g_iret C0 hr d_Reader_readSquare_59
  · replace hE := hB.1 c_
    refine g_aload_n C0 3 d_Reader_readSquare_49 rfl rfl ?_
    refine g_iconst C0 (v := 4) d_Reader_readSquare_50 (by decide) ?_
    refine g_aload_n C0 3 d_Reader_readSquare_51 rfl rfl ?_
    refine g_geti C0 CK_6 5 (by decide) t_523 0 rfl rfl d_Reader_readSquare_52 ?_
    obtain ⟨h55, z55, hE⟩ := bd_some hE
    refine g_callv C0 nd_Reader [70, 2, 10, 11, 12] rfl (sbW_self WReader) (runV C0 (m_Reader_fail l K ad h26 4 (h26 70 5) z55) 2 rfl ⟨t_644, t_646, t_4, t_98, t_647⟩ cd_Reader_fail (by decide) 0 rfl rfl (sbW_self WReader) nd_Reader rfl rfl (Nat.le_of_ble_eq_true rfl) d_Reader_readSquare_55) ?_
    refine g_mx [70, 2, 10, 11, 12] rfl ?_
    refine g_iload_n C0 0 d_Reader_readSquare_58 rfl rfl ?_
    obtain rfl := Option.some.inj hE
    exact g_iret C0 hr d_Reader_readSquare_59
theorem m_Reader_readSquare (l : Launch) (K : KT) (ad : Nat → Nat) (h : Hp) (N : Nat) {res : Int32 × Hp} (hE : K_Reader_readSquare N h = some res) : ConI l y_Reader_readSquare prog_8_method_10_code 4 (Option.some Jvm.ClassFile.FieldType.int) rm_Reader_readSquare K WReader ad h [.ref (ad 70)] res.1 res.2 := fun sz =>
  con_start [(0, .ref (ad 70))] (by decide +kernel) rfl (Nat.le_of_ble_eq_true rfl) (fun p e s m args below meth c C0 hr hnm hsz => w_Reader_readSquare C0 hr N h hE)
abbrev y_Reader_readBoat : MethodName := ⟨"CanoeSides$Reader", "readBoat", "()V"⟩
abbrev rm_Reader_readBoat : Room := { frames := 3, cells := 0, slots := 0, locals := 69 }
theorem cd_Reader_readBoat : cwd y_Reader_readBoat 0 := by decide +kernel
theorem d_Reader_readBoat_0 : decode prog_8_method_6_code 0 = .ok (.aload_n 0, 1) := by decide +kernel
theorem d_Reader_readBoat_1 : decode prog_8_method_6_code 1 = .ok (.invokevirtual 126, 3) := by decide +kernel
theorem d_Reader_readBoat_4 : decode prog_8_method_6_code 4 = .ok (.istore_n 1, 1) := by decide +kernel
theorem d_Reader_readBoat_5 : decode prog_8_method_6_code 5 = .ok (.aload_n 0, 1) := by decide +kernel
theorem d_Reader_readBoat_6 : decode prog_8_method_6_code 6 = .ok (.getfield 12, 3) := by decide +kernel
theorem d_Reader_readBoat_9 : decode prog_8_method_6_code 9 = .ok (.iload_n 1, 1) := by decide +kernel
theorem d_Reader_readBoat_10 : decode prog_8_method_6_code 10 = .ok (.bipush 8, 2) := by decide +kernel
theorem d_Reader_readBoat_12 : decode prog_8_method_6_code 12 = .ok (.imul, 1) := by decide +kernel
theorem d_Reader_readBoat_13 : decode prog_8_method_6_code 13 = .ok (.aload_n 0, 1) := by decide +kernel
theorem d_Reader_readBoat_14 : decode prog_8_method_6_code 14 = .ok (.iconst 0, 1) := by decide +kernel
theorem d_Reader_readBoat_15 : decode prog_8_method_6_code 15 = .ok (.bipush 7, 2) := by decide +kernel
theorem d_Reader_readBoat_17 : decode prog_8_method_6_code 17 = .ok (.invokevirtual 90, 3) := by decide +kernel
theorem d_Reader_readBoat_20 : decode prog_8_method_6_code 20 = .ok (.iadd, 1) := by decide +kernel
theorem d_Reader_readBoat_21 : decode prog_8_method_6_code 21 = .ok (.putfield 111, 3) := by decide +kernel
theorem d_Reader_readBoat_24 : decode prog_8_method_6_code 24 = .ok (.return_, 1) := by decide +kernel
theorem w_Reader_readBoat {p : Program} {l : Launch} {e : Env} {s : State} {m : MethodId} {args : Array Value} {below : List Frame} {meth : Method} {c : Code} {K : KT} {A : Nat → Prop} (C0 : Cx p s m args meth c prog_8_method_6_code "CanoeSides$Reader" 2 K A) (hr : meth.sig.returnType = (Option.none : Option Jvm.ClassFile.FieldType)) {ad : Nat → Nat} (N : Nat) (h : Hp) {res : Hp} (hE : K_Reader_readBoat N h = some res) : G p l e rm_Reader_readBoat s m args below meth c K A WReader 2 0 0 (QV s args below K A WReader 0 0 ad res) 0 [(0, .ref (ad 70))] [] ad h := by
  unfold K_Reader_readBoat at hE
  refine g_aload_n C0 0 d_Reader_readBoat_0 rfl rfl ?_
  obtain ⟨v1, h1, z1, hE⟩ := bd2_some hE
  refine g_calli C0 nd_Reader [70, 2, 10, 11, 12] rfl (sbW_self WReader) (runV C0 (m_Reader_readSquare l K ad h N z1) 0 rfl ⟨t_680, t_682, t_10, t_98, t_683⟩ cd_Reader_readSquare (by decide) 0 rfl rfl (sbW_self WReader) nd_Reader rfl rfl (Nat.le_of_ble_eq_true rfl) d_Reader_readBoat_1) ?_
  refine g_mx [70, 2, 10, 11, 12] rfl ?_
  refine g_istore_n C0 [(1, .int v1), (0, .ref (ad 70))] d_Reader_readBoat_4 rfl (by decide) rfl ?_
  refine g_aload_n C0 1 d_Reader_readBoat_5 rfl rfl ?_
  refine g_getr C0 CK_6 2 (by decide) t_519 0 rfl rfl d_Reader_readBoat_6 ?_
  refine g_iload_n C0 0 d_Reader_readBoat_9 rfl rfl ?_
  refine g_bipush C0 (v := 8) d_Reader_readBoat_10 (by decide) ?_
  refine g_imul C0 d_Reader_readBoat_12 ?_
  refine g_aload_n C0 1 d_Reader_readBoat_13 rfl rfl ?_
  refine g_iconst C0 (v := 0) d_Reader_readBoat_14 (by decide) ?_
  refine g_bipush C0 (v := 7) d_Reader_readBoat_15 (by decide) ?_
  obtain ⟨v17, h17, z17, hE⟩ := bd2_some hE
  refine g_calli C0 nd_Reader [70, 2, 10, 11, 12] rfl (sbW_self WReader) (runV C0 (m_Reader_readNumber l K ad h1 N 0 7 z17) 2 rfl ⟨t_652, t_654, t_6, t_98, t_655⟩ cd_Reader_readNumber (by decide) 0 rfl rfl (sbW_self WReader) nd_Reader rfl rfl (Nat.le_of_ble_eq_true rfl) d_Reader_readBoat_17) ?_
  refine g_mx [70, 2, 10, 11, 12] rfl ?_
  refine g_iadd C0 d_Reader_readBoat_20 ?_
  obtain ⟨h21, e21, hE⟩ := nm_some hE
  refine g_putiN C0 CK_7 CT_7 7 (by decide) t_145 rfl (by decide +kernel) nd_Reader 2 rfl rfl d_Reader_readBoat_21 ?_
  refine g_heap e21 ?_
  obtain rfl := Option.some.inj hE
  exact g_vret C0 hr d_Reader_readBoat_24
theorem m_Reader_readBoat (l : Launch) (K : KT) (ad : Nat → Nat) (h : Hp) (N : Nat) {res : Hp} (hE : K_Reader_readBoat N h = some res) : ConV l y_Reader_readBoat prog_8_method_6_code 2 (Option.none : Option Jvm.ClassFile.FieldType) rm_Reader_readBoat K WReader ad h [.ref (ad 70)] res := fun sz =>
  con_start [(0, .ref (ad 70))] (by decide +kernel) rfl (Nat.le_of_ble_eq_true rfl) (fun p e s m args below meth c C0 hr hnm hsz => w_Reader_readBoat C0 hr N h hE)
abbrev y_Reader_readGoal : MethodName := ⟨"CanoeSides$Reader", "readGoal", "()V"⟩
abbrev rm_Reader_readGoal : Room := { frames := 3, cells := 0, slots := 0, locals := 69 }
theorem cd_Reader_readGoal : cwd y_Reader_readGoal 0 := by decide +kernel
theorem d_Reader_readGoal_0 : decode prog_8_method_7_code 0 = .ok (.aload_n 0, 1) := by decide +kernel
theorem d_Reader_readGoal_1 : decode prog_8_method_7_code 1 = .ok (.getfield 12, 3) := by decide +kernel
theorem d_Reader_readGoal_4 : decode prog_8_method_7_code 4 = .ok (.aload_n 0, 1) := by decide +kernel
theorem d_Reader_readGoal_5 : decode prog_8_method_7_code 5 = .ok (.invokevirtual 126, 3) := by decide +kernel
theorem d_Reader_readGoal_8 : decode prog_8_method_7_code 8 = .ok (.putfield 129, 3) := by decide +kernel
theorem d_Reader_readGoal_11 : decode prog_8_method_7_code 11 = .ok (.aload_n 0, 1) := by decide +kernel
theorem d_Reader_readGoal_12 : decode prog_8_method_7_code 12 = .ok (.getfield 12, 3) := by decide +kernel
theorem d_Reader_readGoal_15 : decode prog_8_method_7_code 15 = .ok (.aload_n 0, 1) := by decide +kernel
theorem d_Reader_readGoal_16 : decode prog_8_method_7_code 16 = .ok (.iconst 0, 1) := by decide +kernel
theorem d_Reader_readGoal_17 : decode prog_8_method_7_code 17 = .ok (.bipush 8, 2) := by decide +kernel
theorem d_Reader_readGoal_19 : decode prog_8_method_7_code 19 = .ok (.invokevirtual 90, 3) := by decide +kernel
theorem d_Reader_readGoal_22 : decode prog_8_method_7_code 22 = .ok (.putfield 132, 3) := by decide +kernel
theorem d_Reader_readGoal_25 : decode prog_8_method_7_code 25 = .ok (.return_, 1) := by decide +kernel
theorem w_Reader_readGoal {p : Program} {l : Launch} {e : Env} {s : State} {m : MethodId} {args : Array Value} {below : List Frame} {meth : Method} {c : Code} {K : KT} {A : Nat → Prop} (C0 : Cx p s m args meth c prog_8_method_7_code "CanoeSides$Reader" 1 K A) (hr : meth.sig.returnType = (Option.none : Option Jvm.ClassFile.FieldType)) {ad : Nat → Nat} (N : Nat) (h : Hp) {res : Hp} (hE : K_Reader_readGoal N h = some res) : G p l e rm_Reader_readGoal s m args below meth c K A WReader 1 0 0 (QV s args below K A WReader 0 0 ad res) 0 [(0, .ref (ad 70))] [] ad h := by
  unfold K_Reader_readGoal at hE
  refine g_aload_n C0 0 d_Reader_readGoal_0 rfl rfl ?_
  refine g_getr C0 CK_6 2 (by decide) t_519 0 rfl rfl d_Reader_readGoal_1 ?_
  refine g_aload_n C0 0 d_Reader_readGoal_4 rfl rfl ?_
  obtain ⟨v5, h5, z5, hE⟩ := bd2_some hE
  refine g_calli C0 nd_Reader [70, 2, 10, 11, 12] rfl (sbW_self WReader) (runV C0 (m_Reader_readSquare l K ad h N z5) 0 rfl ⟨t_680, t_682, t_10, t_98, t_683⟩ cd_Reader_readSquare (by decide) 0 rfl rfl (sbW_self WReader) nd_Reader rfl rfl (Nat.le_of_ble_eq_true rfl) d_Reader_readGoal_5) ?_
  refine g_mx [70, 2, 10, 11, 12] rfl ?_
  obtain ⟨h8, e8, hE⟩ := nm_some hE
  refine g_putiN C0 CK_7 CT_7 8 (by decide) t_151 rfl (by decide +kernel) nd_Reader 2 rfl rfl d_Reader_readGoal_8 ?_
  refine g_heap e8 ?_
  refine g_aload_n C0 0 d_Reader_readGoal_11 rfl rfl ?_
  refine g_getr C0 CK_6 2 (by decide) t_519 0 rfl rfl d_Reader_readGoal_12 ?_
  refine g_aload_n C0 0 d_Reader_readGoal_15 rfl rfl ?_
  refine g_iconst C0 (v := 0) d_Reader_readGoal_16 (by decide) ?_
  refine g_bipush C0 (v := 8) d_Reader_readGoal_17 (by decide) ?_
  obtain ⟨v19, h19, z19, hE⟩ := bd2_some hE
  refine g_calli C0 nd_Reader [70, 2, 10, 11, 12] rfl (sbW_self WReader) (runV C0 (m_Reader_readNumber l K ad h8 N 0 8 z19) 2 rfl ⟨t_652, t_654, t_6, t_98, t_655⟩ cd_Reader_readNumber (by decide) 0 rfl rfl (sbW_self WReader) nd_Reader rfl rfl (Nat.le_of_ble_eq_true rfl) d_Reader_readGoal_19) ?_
  refine g_mx [70, 2, 10, 11, 12] rfl ?_
  obtain ⟨h22, e22, hE⟩ := nm_some hE
  refine g_putiN C0 CK_7 CT_7 9 (by decide) t_154 rfl (by decide +kernel) nd_Reader 2 rfl rfl d_Reader_readGoal_22 ?_
  refine g_heap e22 ?_
  obtain rfl := Option.some.inj hE
  exact g_vret C0 hr d_Reader_readGoal_25
theorem m_Reader_readGoal (l : Launch) (K : KT) (ad : Nat → Nat) (h : Hp) (N : Nat) {res : Hp} (hE : K_Reader_readGoal N h = some res) : ConV l y_Reader_readGoal prog_8_method_7_code 1 (Option.none : Option Jvm.ClassFile.FieldType) rm_Reader_readGoal K WReader ad h [.ref (ad 70)] res := fun sz =>
  con_start [(0, .ref (ad 70))] (by decide +kernel) rfl (Nat.le_of_ble_eq_true rfl) (fun p e s m args below meth c C0 hr hnm hsz => w_Reader_readGoal C0 hr N h hE)
abbrev y_Reader_readWind : MethodName := ⟨"CanoeSides$Reader", "readWind", "()V"⟩
abbrev rm_Reader_readWind : Room := { frames := 2, cells := 0, slots := 0, locals := 46 }
theorem cd_Reader_readWind : cwd y_Reader_readWind 0 := by decide +kernel
theorem d_Reader_readWind_0 : decode prog_8_method_8_code 0 = .ok (.aload_n 0, 1) := by decide +kernel
theorem d_Reader_readWind_1 : decode prog_8_method_8_code 1 = .ok (.getfield 12, 3) := by decide +kernel
theorem d_Reader_readWind_4 : decode prog_8_method_8_code 4 = .ok (.aload_n 0, 1) := by decide +kernel
theorem d_Reader_readWind_5 : decode prog_8_method_8_code 5 = .ok (.iconst 0, 1) := by decide +kernel
theorem d_Reader_readWind_6 : decode prog_8_method_8_code 6 = .ok (.iconst 3, 1) := by decide +kernel
theorem d_Reader_readWind_7 : decode prog_8_method_8_code 7 = .ok (.invokevirtual 90, 3) := by decide +kernel
theorem d_Reader_readWind_10 : decode prog_8_method_8_code 10 = .ok (.putfield 135, 3) := by decide +kernel
theorem d_Reader_readWind_13 : decode prog_8_method_8_code 13 = .ok (.aload_n 0, 1) := by decide +kernel
theorem d_Reader_readWind_14 : decode prog_8_method_8_code 14 = .ok (.getfield 12, 3) := by decide +kernel
theorem d_Reader_readWind_17 : decode prog_8_method_8_code 17 = .ok (.aload_n 0, 1) := by decide +kernel
theorem d_Reader_readWind_18 : decode prog_8_method_8_code 18 = .ok (.iconst 1, 1) := by decide +kernel
theorem d_Reader_readWind_19 : decode prog_8_method_8_code 19 = .ok (.bipush 9, 2) := by decide +kernel
theorem d_Reader_readWind_21 : decode prog_8_method_8_code 21 = .ok (.invokevirtual 90, 3) := by decide +kernel
theorem d_Reader_readWind_24 : decode prog_8_method_8_code 24 = .ok (.putfield 138, 3) := by decide +kernel
theorem d_Reader_readWind_27 : decode prog_8_method_8_code 27 = .ok (.return_, 1) := by decide +kernel
theorem w_Reader_readWind {p : Program} {l : Launch} {e : Env} {s : State} {m : MethodId} {args : Array Value} {below : List Frame} {meth : Method} {c : Code} {K : KT} {A : Nat → Prop} (C0 : Cx p s m args meth c prog_8_method_8_code "CanoeSides$Reader" 1 K A) (hr : meth.sig.returnType = (Option.none : Option Jvm.ClassFile.FieldType)) {ad : Nat → Nat} (N : Nat) (h : Hp) {res : Hp} (hE : K_Reader_readWind N h = some res) : G p l e rm_Reader_readWind s m args below meth c K A WReader 1 0 0 (QV s args below K A WReader 0 0 ad res) 0 [(0, .ref (ad 70))] [] ad h := by
  unfold K_Reader_readWind at hE
  refine g_aload_n C0 0 d_Reader_readWind_0 rfl rfl ?_
  refine g_getr C0 CK_6 2 (by decide) t_519 0 rfl rfl d_Reader_readWind_1 ?_
  refine g_aload_n C0 0 d_Reader_readWind_4 rfl rfl ?_
  refine g_iconst C0 (v := 0) d_Reader_readWind_5 (by decide) ?_
  refine g_iconst C0 (v := 3) d_Reader_readWind_6 (by decide) ?_
  obtain ⟨v7, h7, z7, hE⟩ := bd2_some hE
  refine g_calli C0 nd_Reader [70, 2, 10, 11, 12] rfl (sbW_self WReader) (runV C0 (m_Reader_readNumber l K ad h N 0 3 z7) 2 rfl ⟨t_652, t_654, t_6, t_98, t_655⟩ cd_Reader_readNumber (by decide) 0 rfl rfl (sbW_self WReader) nd_Reader rfl rfl (Nat.le_of_ble_eq_true rfl) d_Reader_readWind_7) ?_
  refine g_mx [70, 2, 10, 11, 12] rfl ?_
  obtain ⟨h10, e10, hE⟩ := nm_some hE
  refine g_putiN C0 CK_7 CT_7 10 (by decide) t_158 rfl (by decide +kernel) nd_Reader 2 rfl rfl d_Reader_readWind_10 ?_
  refine g_heap e10 ?_
  refine g_aload_n C0 0 d_Reader_readWind_13 rfl rfl ?_
  refine g_getr C0 CK_6 2 (by decide) t_519 0 rfl rfl d_Reader_readWind_14 ?_
  refine g_aload_n C0 0 d_Reader_readWind_17 rfl rfl ?_
  refine g_iconst C0 (v := 1) d_Reader_readWind_18 (by decide) ?_
  refine g_bipush C0 (v := 9) d_Reader_readWind_19 (by decide) ?_
  obtain ⟨v21, h21, z21, hE⟩ := bd2_some hE
  refine g_calli C0 nd_Reader [70, 2, 10, 11, 12] rfl (sbW_self WReader) (runV C0 (m_Reader_readNumber l K ad h10 N 1 9 z21) 2 rfl ⟨t_652, t_654, t_6, t_98, t_655⟩ cd_Reader_readNumber (by decide) 0 rfl rfl (sbW_self WReader) nd_Reader rfl rfl (Nat.le_of_ble_eq_true rfl) d_Reader_readWind_21) ?_
  refine g_mx [70, 2, 10, 11, 12] rfl ?_
  obtain ⟨h24, e24, hE⟩ := nm_some hE
  refine g_putiN C0 CK_7 CT_7 11 (by decide) t_162 rfl (by decide +kernel) nd_Reader 2 rfl rfl d_Reader_readWind_24 ?_
  refine g_heap e24 ?_
  obtain rfl := Option.some.inj hE
  exact g_vret C0 hr d_Reader_readWind_27
theorem m_Reader_readWind (l : Launch) (K : KT) (ad : Nat → Nat) (h : Hp) (N : Nat) {res : Hp} (hE : K_Reader_readWind N h = some res) : ConV l y_Reader_readWind prog_8_method_8_code 1 (Option.none : Option Jvm.ClassFile.FieldType) rm_Reader_readWind K WReader ad h [.ref (ad 70)] res := fun sz =>
  con_start [(0, .ref (ad 70))] (by decide +kernel) rfl (Nat.le_of_ble_eq_true rfl) (fun p e s m args below meth c C0 hr hnm hsz => w_Reader_readWind C0 hr N h hE)
abbrev y_Reader_readHabits : MethodName := ⟨"CanoeSides$Reader", "readHabits", "()V"⟩
abbrev rm_Reader_readHabits : Room := { frames := 5, cells := 0, slots := 0, locals := 113 }
theorem cd_Reader_readHabits : cwd y_Reader_readHabits 0 := by decide +kernel
theorem d_Reader_readHabits_0 : decode prog_8_method_9_code 0 = .ok (.iconst 0, 1) := by decide +kernel
theorem d_Reader_readHabits_1 : decode prog_8_method_9_code 1 = .ok (.istore_n 1, 1) := by decide +kernel
theorem d_Reader_readHabits_2 : decode prog_8_method_9_code 2 = .ok (.iload_n 1, 1) := by decide +kernel
theorem d_Reader_readHabits_3 : decode prog_8_method_9_code 3 = .ok (.aload_n 0, 1) := by decide +kernel
theorem d_Reader_readHabits_4 : decode prog_8_method_9_code 4 = .ok (.getfield 12, 3) := by decide +kernel
theorem d_Reader_readHabits_7 : decode prog_8_method_9_code 7 = .ok (.getfield 141, 3) := by decide +kernel
theorem d_Reader_readHabits_10 : decode prog_8_method_9_code 10 = .ok (.arraylength, 1) := by decide +kernel
theorem d_Reader_readHabits_11 : decode prog_8_method_9_code 11 = .ok (.if_icmp .ge 24, 3) := by decide +kernel
theorem d_Reader_readHabits_14 : decode prog_8_method_9_code 14 = .ok (.aload_n 0, 1) := by decide +kernel
theorem d_Reader_readHabits_15 : decode prog_8_method_9_code 15 = .ok (.getfield 12, 3) := by decide +kernel
theorem d_Reader_readHabits_18 : decode prog_8_method_9_code 18 = .ok (.getfield 141, 3) := by decide +kernel
theorem d_Reader_readHabits_21 : decode prog_8_method_9_code 21 = .ok (.iload_n 1, 1) := by decide +kernel
theorem d_Reader_readHabits_22 : decode prog_8_method_9_code 22 = .ok (.aload_n 0, 1) := by decide +kernel
theorem d_Reader_readHabits_23 : decode prog_8_method_9_code 23 = .ok (.ldc 144, 2) := by decide +kernel
theorem d_Reader_readHabits_25 : decode prog_8_method_9_code 25 = .ok (.invokevirtual 95, 3) := by decide +kernel
theorem d_Reader_readHabits_28 : decode prog_8_method_9_code 28 = .ok (.iastore, 1) := by decide +kernel
theorem d_Reader_readHabits_29 : decode prog_8_method_9_code 29 = .ok (.iinc 1 1, 3) := by decide +kernel
theorem d_Reader_readHabits_32 : decode prog_8_method_9_code 32 = .ok (.goto (-30), 3) := by decide +kernel
theorem d_Reader_readHabits_35 : decode prog_8_method_9_code 35 = .ok (.return_, 1) := by decide +kernel
theorem w_Reader_readHabits_L2 {p : Program} {l : Launch} {e : Env} {s : State} {m : MethodId} {args : Array Value} {below : List Frame} {meth : Method} {c : Code} {K : KT} {A : Nat → Prop} {Q : State → Prop} (C0 : Cx p s m args meth c prog_8_method_9_code "CanoeSides$Reader" 2 K A) (hr : meth.sig.returnType = (Option.none : Option Jvm.ClassFile.FieldType)) {ad : Nat → Nat} (N : Nat) (x1 : Int32) (h : Hp) {x_ : (Int32 × Hp) ⊕ (Hp)} (hE : K_Reader_readHabits_L2 N x1 h = some x_) (hk1 : ∀ z_, x_ = .inl z_ → G p l e rm_Reader_readHabits s m args below meth c K A WReader 2 0 0 Q 2 [(0, .ref (ad 70)), (1, .int z_.1)] [] ad z_.2) (hk3 : ∀ z_, x_ = .inr z_ → G p l e rm_Reader_readHabits s m args below meth c K A WReader 2 0 0 Q 35 [] [] ad z_) : G p l e rm_Reader_readHabits s m args below meth c K A WReader 2 0 0 Q 2 [(0, .ref (ad 70)), (1, .int x1)] [] ad h := by
  unfold K_Reader_readHabits_L2 at hE
  refine g_iload_n C0 1 d_Reader_readHabits_2 rfl rfl ?_
  refine g_aload_n C0 0 d_Reader_readHabits_3 rfl rfl ?_
  refine g_getr C0 CK_6 2 (by decide) t_519 0 rfl rfl d_Reader_readHabits_4 ?_
  refine g_getrN C0 CK_7 12 (by decide) t_165 2 rfl rfl d_Reader_readHabits_7 ?_
  refine g_alen C0 4 rfl rfl (v := 8) (by decide) d_Reader_readHabits_10 ?_
  have hB := ite_some hE
  refine g_icmp_ge C0 (tgt := 35) d_Reader_readHabits_11 (by decide) (fun c_ => ?_) (fun c_ => ?_)
  · replace hE := hB.1 c_
    refine g_sub [] (L' := []) rfl ?_
    exact hk3 _ (Option.some.inj hE).symm
  · replace hE := hB.2 c_
    refine g_aload_n C0 0 d_Reader_readHabits_14 rfl rfl ?_
    refine g_getr C0 CK_6 2 (by decide) t_519 0 rfl rfl d_Reader_readHabits_15 ?_
    refine g_getrN C0 CK_7 12 (by decide) t_165 2 rfl rfl d_Reader_readHabits_18 ?_
    refine g_iload_n C0 1 d_Reader_readHabits_21 rfl rfl ?_
    refine g_aload_n C0 0 d_Reader_readHabits_22 rfl rfl ?_
    refine g_ldcS C0 2 (by decide) d_Reader_readHabits_23 ?_
    obtain ⟨v25, h25, z25, hE⟩ := bd2_some hE
    refine g_calli C0 nd_Reader [70, 2, 10, 11, 12] rfl (sbW_self WReader) (runV C0 (m_Reader_readOneOf l K ad h N 2 (by decide) z25) 1 rfl ⟨t_660, t_662, t_7, t_98, t_663⟩ cd_Reader_readOneOf (by decide) 0 rfl rfl (sbW_self WReader) nd_Reader rfl rfl (Nat.le_of_ble_eq_true rfl) d_Reader_readHabits_25) ?_
    refine g_mx [70, 2, 10, 11, 12] rfl ?_
    obtain ⟨q28, hE⟩ := sA_some hE
    obtain ⟨h28, e28, hE⟩ := nm_some hE
    refine g_iast C0 4 rfl nd_Reader q28 d_Reader_readHabits_28 ?_
    refine g_heap e28 ?_
    obtain ⟨v29, e29, hE⟩ := nm_some hE
    refine g_iinc C0 1 [(1, .int v29), (0, .ref (ad 70))] d_Reader_readHabits_29 rfl (by rw [e29]; rfl) (by decide) rfl ?_
    refine g_goto C0 (tgt := 2) d_Reader_readHabits_32 (by decide) ?_
    refine g_sub [1, 0] (L' := [(0, .ref (ad 70)), (1, .int v29)]) rfl ?_
    exact hk1 _ (Option.some.inj hE).symm
theorem w_Reader_readHabits {p : Program} {l : Launch} {e : Env} {s : State} {m : MethodId} {args : Array Value} {below : List Frame} {meth : Method} {c : Code} {K : KT} {A : Nat → Prop} (C0 : Cx p s m args meth c prog_8_method_9_code "CanoeSides$Reader" 2 K A) (hr : meth.sig.returnType = (Option.none : Option Jvm.ClassFile.FieldType)) {ad : Nat → Nat} (N : Nat) (h : Hp) {res : Hp} (hE : K_Reader_readHabits N h = some res) : G p l e rm_Reader_readHabits s m args below meth c K A WReader 2 0 0 (QV s args below K A WReader 0 0 ad res) 0 [(0, .ref (ad 70))] [] ad h := by
  unfold K_Reader_readHabits at hE
  refine g_iconst C0 (v := 0) d_Reader_readHabits_0 (by decide) ?_
  refine g_istore_n C0 [(1, .int 0), (0, .ref (ad 70))] d_Reader_readHabits_1 rfl (by decide) rfl ?_
  refine g_sub [1, 0] (L' := [(0, .ref (ad 70)), (1, .int 0)]) rfl ?_
  obtain ⟨t2, z2, hE⟩ := bd_some hE
  refine loopG (fun z_ : Int32 × Hp => K_Reader_readHabits_L2 N z_.1 z_.2) (fun z_ : Int32 × Hp => G p l e rm_Reader_readHabits s m args below meth c K A WReader 2 0 0 _ 2 [(0, .ref (ad 70)), (1, .int z_.1)] [] ad z_.2) (fun z_ : Hp => G p l e rm_Reader_readHabits s m args below meth c K A WReader 2 0 0 _ 35 [] [] ad z_) (fun z_ x_ hz k1 k2 => w_Reader_readHabits_L2 C0 hr N z_.1 z_.2 hz k1 k2) _ _ _ z2 ?_
  try dsimp only
  obtain rfl := Option.some.inj hE
  exact g_vret C0 hr d_Reader_readHabits_35
theorem m_Reader_readHabits (l : Launch) (K : KT) (ad : Nat → Nat) (h : Hp) (N : Nat) {res : Hp} (hE : K_Reader_readHabits N h = some res) : ConV l y_Reader_readHabits prog_8_method_9_code 2 (Option.none : Option Jvm.ClassFile.FieldType) rm_Reader_readHabits K WReader ad h [.ref (ad 70)] res := fun sz =>
  con_start [(0, .ref (ad 70))] (by decide +kernel) rfl (Nat.le_of_ble_eq_true rfl) (fun p e s m args below meth c C0 hr hnm hsz => w_Reader_readHabits C0 hr N h hE)
abbrev y_Reader_readEnd : MethodName := ⟨"CanoeSides$Reader", "readEnd", "()V"⟩
abbrev rm_Reader_readEnd : Room := { frames := 1, cells := 0, slots := 0, locals := 22 }
theorem cd_Reader_readEnd : cwd y_Reader_readEnd 0 := by decide +kernel
theorem d_Reader_readEnd_0 : decode prog_8_method_13_code 0 = .ok (.aload_n 0, 1) := by decide +kernel
theorem d_Reader_readEnd_1 : decode prog_8_method_13_code 1 = .ok (.invokevirtual 47, 3) := by decide +kernel
theorem d_Reader_readEnd_4 : decode prog_8_method_13_code 4 = .ok (.aload_n 0, 1) := by decide +kernel
theorem d_Reader_readEnd_5 : decode prog_8_method_13_code 5 = .ok (.invokevirtual 55, 3) := by decide +kernel
theorem d_Reader_readEnd_8 : decode prog_8_method_13_code 8 = .ok (.bipush 59, 2) := by decide +kernel
theorem d_Reader_readEnd_10 : decode prog_8_method_13_code 10 = .ok (.if_icmp .eq 12, 3) := by decide +kernel
theorem d_Reader_readEnd_13 : decode prog_8_method_13_code 13 = .ok (.aload_n 0, 1) := by decide +kernel
theorem d_Reader_readEnd_14 : decode prog_8_method_13_code 14 = .ok (.iconst 1, 1) := by decide +kernel
theorem d_Reader_readEnd_15 : decode prog_8_method_13_code 15 = .ok (.aload_n 0, 1) := by decide +kernel
theorem d_Reader_readEnd_16 : decode prog_8_method_13_code 16 = .ok (.getfield 18, 3) := by decide +kernel
theorem d_Reader_readEnd_19 : decode prog_8_method_13_code 19 = .ok (.invokevirtual 65, 3) := by decide +kernel
theorem d_Reader_readEnd_22 : decode prog_8_method_13_code 22 = .ok (.aload_n 0, 1) := by decide +kernel
theorem d_Reader_readEnd_23 : decode prog_8_method_13_code 23 = .ok (.dup, 1) := by decide +kernel
theorem d_Reader_readEnd_24 : decode prog_8_method_13_code 24 = .ok (.getfield 18, 3) := by decide +kernel
theorem d_Reader_readEnd_27 : decode prog_8_method_13_code 27 = .ok (.iconst 1, 1) := by decide +kernel
theorem d_Reader_readEnd_28 : decode prog_8_method_13_code 28 = .ok (.iadd, 1) := by decide +kernel
theorem d_Reader_readEnd_29 : decode prog_8_method_13_code 29 = .ok (.putfield 18, 3) := by decide +kernel
theorem d_Reader_readEnd_32 : decode prog_8_method_13_code 32 = .ok (.return_, 1) := by decide +kernel
theorem w_Reader_readEnd_J22 {p : Program} {l : Launch} {e : Env} {s : State} {m : MethodId} {args : Array Value} {below : List Frame} {meth : Method} {c : Code} {K : KT} {A : Nat → Prop} (C0 : Cx p s m args meth c prog_8_method_13_code "CanoeSides$Reader" 1 K A) (hr : meth.sig.returnType = (Option.none : Option Jvm.ClassFile.FieldType)) {ad : Nat → Nat} (N : Nat) (h : Hp) {res : Hp} (hE : K_Reader_readEnd_J22 N h = some res) : G p l e rm_Reader_readEnd s m args below meth c K A WReader 1 0 0 (QV s args below K A WReader 0 0 ad res) 22 [(0, .ref (ad 70))] [] ad h := by
  unfold K_Reader_readEnd_J22 at hE
  refine g_aload_n C0 0 d_Reader_readEnd_22 rfl rfl ?_
  refine g_dup C0 d_Reader_readEnd_23 rfl ?_
  refine g_geti C0 CK_6 3 (by decide) t_521 0 rfl rfl d_Reader_readEnd_24 ?_
  refine g_iconst C0 (v := 1) d_Reader_readEnd_27 (by decide) ?_
  refine g_iadd C0 d_Reader_readEnd_28 ?_
  obtain ⟨h29, e29, hE⟩ := nm_some hE
  refine g_puti C0 CK_6 CT_6 3 (by decide) t_521 rfl (by decide +kernel) nd_Reader 0 rfl rfl d_Reader_readEnd_29 ?_
  refine g_heap e29 ?_
  obtain rfl := Option.some.inj hE
  exact g_vret C0 hr d_Reader_readEnd_32
theorem w_Reader_readEnd {p : Program} {l : Launch} {e : Env} {s : State} {m : MethodId} {args : Array Value} {below : List Frame} {meth : Method} {c : Code} {K : KT} {A : Nat → Prop} (C0 : Cx p s m args meth c prog_8_method_13_code "CanoeSides$Reader" 1 K A) (hr : meth.sig.returnType = (Option.none : Option Jvm.ClassFile.FieldType)) {ad : Nat → Nat} (N : Nat) (h : Hp) {res : Hp} (hE : K_Reader_readEnd N h = some res) : G p l e rm_Reader_readEnd s m args below meth c K A WReader 1 0 0 (QV s args below K A WReader 0 0 ad res) 0 [(0, .ref (ad 70))] [] ad h := by
  unfold K_Reader_readEnd at hE
  refine g_aload_n C0 0 d_Reader_readEnd_0 rfl rfl ?_
  obtain ⟨h1, z1, hE⟩ := bd_some hE
  refine g_callv C0 nd_Reader [70, 2, 10, 11, 12] rfl (sbW_self WReader) (runV C0 (m_Reader_skipBlanks l K ad h N z1) 0 rfl ⟨t_549, t_551, t_1, t_98, t_552⟩ cd_Reader_skipBlanks (by decide) 0 rfl rfl (sbW_self WReader) nd_Reader rfl rfl (Nat.le_of_ble_eq_true rfl) d_Reader_readEnd_1) ?_
  refine g_mx [70, 2, 10, 11, 12] rfl ?_
  refine g_aload_n C0 0 d_Reader_readEnd_4 rfl rfl ?_
  obtain ⟨v5, z5, hE⟩ := bd_some hE
  refine g_calliP C0 nd_Reader [70, 2, 10, 11, 12] rfl (sbW_self WReader) (runV C0 (m_Reader_letterHere l K ad h1 z5) 0 rfl ⟨t_558, t_560, t_3, t_98, t_561⟩ cd_Reader_letterHere (by decide) 0 rfl rfl (sbW_self WReader) nd_Reader rfl rfl (Nat.le_of_ble_eq_true rfl) d_Reader_readEnd_5) ?_
  refine g_bipush C0 (v := 59) d_Reader_readEnd_8 (by decide) ?_
  have hB := ite_some hE
  refine g_icmp_eq C0 (tgt := 22) d_Reader_readEnd_10 (by decide) (fun c_ => ?_) (fun c_ => ?_)
  · replace hE := hB.1 c_
    exact w_Reader_readEnd_J22 C0 hr N h1 hE
  · replace hE := hB.2 c_
    refine g_aload_n C0 0 d_Reader_readEnd_13 rfl rfl ?_
    refine g_iconst C0 (v := 1) d_Reader_readEnd_14 (by decide) ?_
    refine g_aload_n C0 0 d_Reader_readEnd_15 rfl rfl ?_
    refine g_geti C0 CK_6 3 (by decide) t_521 0 rfl rfl d_Reader_readEnd_16 ?_
    obtain ⟨h19, z19, hE⟩ := bd_some hE
    refine g_callv C0 nd_Reader [70, 2, 10, 11, 12] rfl (sbW_self WReader) (runV C0 (m_Reader_fail l K ad h1 1 (h1 70 3) z19) 2 rfl ⟨t_644, t_646, t_4, t_98, t_647⟩ cd_Reader_fail (by decide) 0 rfl rfl (sbW_self WReader) nd_Reader rfl rfl (Nat.le_of_ble_eq_true rfl) d_Reader_readEnd_19) ?_
    refine g_mx [70, 2, 10, 11, 12] rfl ?_
    exact w_Reader_readEnd_J22 C0 hr N h19 hE
theorem m_Reader_readEnd (l : Launch) (K : KT) (ad : Nat → Nat) (h : Hp) (N : Nat) {res : Hp} (hE : K_Reader_readEnd N h = some res) : ConV l y_Reader_readEnd prog_8_method_13_code 1 (Option.none : Option Jvm.ClassFile.FieldType) rm_Reader_readEnd K WReader ad h [.ref (ad 70)] res := fun sz =>
  con_start [(0, .ref (ad 70))] (by decide +kernel) rfl (Nat.le_of_ble_eq_true rfl) (fun p e s m args below meth c C0 hr hnm hsz => w_Reader_readEnd C0 hr N h hE)
abbrev y_Reader_readClause : MethodName := ⟨"CanoeSides$Reader", "readClause", "()V"⟩
abbrev rm_Reader_readClause : Room := { frames := 6, cells := 0, slots := 0, locals := 138 }
theorem cd_Reader_readClause : cwd y_Reader_readClause 0 := by decide +kernel
theorem d_Reader_readClause_0 : decode prog_8_method_3_code 0 = .ok (.ldc 53, 2) := by decide +kernel
theorem d_Reader_readClause_2 : decode prog_8_method_3_code 2 = .ok (.aload_n 0, 1) := by decide +kernel
theorem d_Reader_readClause_3 : decode prog_8_method_3_code 3 = .ok (.invokevirtual 55, 3) := by decide +kernel
theorem d_Reader_readClause_6 : decode prog_8_method_3_code 6 = .ok (.i2c, 1) := by decide +kernel
theorem d_Reader_readClause_7 : decode prog_8_method_3_code 7 = .ok (.invokevirtual 59, 3) := by decide +kernel
theorem d_Reader_readClause_10 : decode prog_8_method_3_code 10 = .ok (.istore_n 1, 1) := by decide +kernel
theorem d_Reader_readClause_11 : decode prog_8_method_3_code 11 = .ok (.iload_n 1, 1) := by decide +kernel
theorem d_Reader_readClause_12 : decode prog_8_method_3_code 12 = .ok (.ifCond .lt 14, 3) := by decide +kernel
theorem d_Reader_readClause_15 : decode prog_8_method_3_code 15 = .ok (.aload_n 0, 1) := by decide +kernel
theorem d_Reader_readClause_16 : decode prog_8_method_3_code 16 = .ok (.getfield 22, 3) := by decide +kernel
theorem d_Reader_readClause_19 : decode prog_8_method_3_code 19 = .ok (.ifCond .ne 17, 3) := by decide +kernel
theorem d_Reader_readClause_22 : decode prog_8_method_3_code 22 = .ok (.iload_n 1, 1) := by decide +kernel
theorem d_Reader_readClause_23 : decode prog_8_method_3_code 23 = .ok (.ifCond .eq 13, 3) := by decide +kernel
theorem d_Reader_readClause_26 : decode prog_8_method_3_code 26 = .ok (.aload_n 0, 1) := by decide +kernel
theorem d_Reader_readClause_27 : decode prog_8_method_3_code 27 = .ok (.iconst 1, 1) := by decide +kernel
theorem d_Reader_readClause_28 : decode prog_8_method_3_code 28 = .ok (.aload_n 0, 1) := by decide +kernel
theorem d_Reader_readClause_29 : decode prog_8_method_3_code 29 = .ok (.getfield 18, 3) := by decide +kernel
theorem d_Reader_readClause_32 : decode prog_8_method_3_code 32 = .ok (.invokevirtual 65, 3) := by decide +kernel
theorem d_Reader_readClause_35 : decode prog_8_method_3_code 35 = .ok (.return_, 1) := by decide +kernel
theorem d_Reader_readClause_36 : decode prog_8_method_3_code 36 = .ok (.aload_n 0, 1) := by decide +kernel
theorem d_Reader_readClause_37 : decode prog_8_method_3_code 37 = .ok (.getfield 22, 3) := by decide +kernel
theorem d_Reader_readClause_40 : decode prog_8_method_3_code 40 = .ok (.iload_n 1, 1) := by decide +kernel
theorem d_Reader_readClause_41 : decode prog_8_method_3_code 41 = .ok (.ishr, 1) := by decide +kernel
theorem d_Reader_readClause_42 : decode prog_8_method_3_code 42 = .ok (.iconst 1, 1) := by decide +kernel
theorem d_Reader_readClause_43 : decode prog_8_method_3_code 43 = .ok (.iand, 1) := by decide +kernel
theorem d_Reader_readClause_44 : decode prog_8_method_3_code 44 = .ok (.ifCond .eq 13, 3) := by decide +kernel
theorem d_Reader_readClause_47 : decode prog_8_method_3_code 47 = .ok (.aload_n 0, 1) := by decide +kernel
theorem d_Reader_readClause_48 : decode prog_8_method_3_code 48 = .ok (.iconst 3, 1) := by decide +kernel
theorem d_Reader_readClause_49 : decode prog_8_method_3_code 49 = .ok (.aload_n 0, 1) := by decide +kernel
theorem d_Reader_readClause_50 : decode prog_8_method_3_code 50 = .ok (.getfield 18, 3) := by decide +kernel
theorem d_Reader_readClause_53 : decode prog_8_method_3_code 53 = .ok (.invokevirtual 65, 3) := by decide +kernel
theorem d_Reader_readClause_56 : decode prog_8_method_3_code 56 = .ok (.return_, 1) := by decide +kernel
theorem d_Reader_readClause_57 : decode prog_8_method_3_code 57 = .ok (.aload_n 0, 1) := by decide +kernel
theorem d_Reader_readClause_58 : decode prog_8_method_3_code 58 = .ok (.dup, 1) := by decide +kernel
theorem d_Reader_readClause_59 : decode prog_8_method_3_code 59 = .ok (.getfield 22, 3) := by decide +kernel
theorem d_Reader_readClause_62 : decode prog_8_method_3_code 62 = .ok (.iconst 1, 1) := by decide +kernel
theorem d_Reader_readClause_63 : decode prog_8_method_3_code 63 = .ok (.iload_n 1, 1) := by decide +kernel
theorem d_Reader_readClause_64 : decode prog_8_method_3_code 64 = .ok (.ishl, 1) := by decide +kernel
theorem d_Reader_readClause_65 : decode prog_8_method_3_code 65 = .ok (.ior, 1) := by decide +kernel
theorem d_Reader_readClause_66 : decode prog_8_method_3_code 66 = .ok (.putfield 22, 3) := by decide +kernel
theorem d_Reader_readClause_69 : decode prog_8_method_3_code 69 = .ok (.aload_n 0, 1) := by decide +kernel
theorem d_Reader_readClause_70 : decode prog_8_method_3_code 70 = .ok (.dup, 1) := by decide +kernel
theorem d_Reader_readClause_71 : decode prog_8_method_3_code 71 = .ok (.getfield 18, 3) := by decide +kernel
theorem d_Reader_readClause_74 : decode prog_8_method_3_code 74 = .ok (.iconst 1, 1) := by decide +kernel
theorem d_Reader_readClause_75 : decode prog_8_method_3_code 75 = .ok (.iadd, 1) := by decide +kernel
theorem d_Reader_readClause_76 : decode prog_8_method_3_code 76 = .ok (.putfield 18, 3) := by decide +kernel
theorem d_Reader_readClause_79 : decode prog_8_method_3_code 79 = .ok (.iload_n 1, 1) := by decide +kernel
theorem d_Reader_readClause_80 : decode prog_8_method_3_code 80 = .ok (.tableswitch 71 0 4 #[36, 43, 50, 57, 64], 36) := by decide +kernel
theorem d_Reader_readClause_116 : decode prog_8_method_3_code 116 = .ok (.aload_n 0, 1) := by decide +kernel
theorem d_Reader_readClause_117 : decode prog_8_method_3_code 117 = .ok (.invokevirtual 69, 3) := by decide +kernel
theorem d_Reader_readClause_120 : decode prog_8_method_3_code 120 = .ok (.goto 35, 3) := by decide +kernel
theorem d_Reader_readClause_123 : decode prog_8_method_3_code 123 = .ok (.aload_n 0, 1) := by decide +kernel
theorem d_Reader_readClause_124 : decode prog_8_method_3_code 124 = .ok (.invokevirtual 72, 3) := by decide +kernel
theorem d_Reader_readClause_127 : decode prog_8_method_3_code 127 = .ok (.goto 28, 3) := by decide +kernel
theorem d_Reader_readClause_130 : decode prog_8_method_3_code 130 = .ok (.aload_n 0, 1) := by decide +kernel
theorem d_Reader_readClause_131 : decode prog_8_method_3_code 131 = .ok (.invokevirtual 75, 3) := by decide +kernel
theorem d_Reader_readClause_134 : decode prog_8_method_3_code 134 = .ok (.goto 21, 3) := by decide +kernel
theorem d_Reader_readClause_137 : decode prog_8_method_3_code 137 = .ok (.aload_n 0, 1) := by decide +kernel
theorem d_Reader_readClause_138 : decode prog_8_method_3_code 138 = .ok (.invokevirtual 78, 3) := by decide +kernel
theorem d_Reader_readClause_141 : decode prog_8_method_3_code 141 = .ok (.goto 14, 3) := by decide +kernel
theorem d_Reader_readClause_144 : decode prog_8_method_3_code 144 = .ok (.aload_n 0, 1) := by decide +kernel
theorem d_Reader_readClause_145 : decode prog_8_method_3_code 145 = .ok (.invokevirtual 81, 3) := by decide +kernel
theorem d_Reader_readClause_148 : decode prog_8_method_3_code 148 = .ok (.goto 7, 3) := by decide +kernel
theorem d_Reader_readClause_151 : decode prog_8_method_3_code 151 = .ok (.aload_n 0, 1) := by decide +kernel
theorem d_Reader_readClause_152 : decode prog_8_method_3_code 152 = .ok (.invokevirtual 84, 3) := by decide +kernel
theorem d_Reader_readClause_155 : decode prog_8_method_3_code 155 = .ok (.aload_n 0, 1) := by decide +kernel
theorem d_Reader_readClause_156 : decode prog_8_method_3_code 156 = .ok (.invokevirtual 87, 3) := by decide +kernel
theorem d_Reader_readClause_159 : decode prog_8_method_3_code 159 = .ok (.return_, 1) := by decide +kernel
theorem w_Reader_readClause_J26 {p : Program} {l : Launch} {e : Env} {s : State} {m : MethodId} {args : Array Value} {below : List Frame} {meth : Method} {c : Code} {K : KT} {A : Nat → Prop} (C0 : Cx p s m args meth c prog_8_method_3_code "CanoeSides$Reader" 2 K A) (hr : meth.sig.returnType = (Option.none : Option Jvm.ClassFile.FieldType)) {ad : Nat → Nat} (N : Nat) (h : Hp) {res : Hp} (hE : K_Reader_readClause_J26 N h = some res) : G p l e rm_Reader_readClause s m args below meth c K A WReader 2 0 0 (QV s args below K A WReader 0 0 ad res) 26 [(0, .ref (ad 70))] [] ad h := by
  unfold K_Reader_readClause_J26 at hE
  refine g_aload_n C0 0 d_Reader_readClause_26 rfl rfl ?_
  refine g_iconst C0 (v := 1) d_Reader_readClause_27 (by decide) ?_
  refine g_aload_n C0 0 d_Reader_readClause_28 rfl rfl ?_
  refine g_geti C0 CK_6 3 (by decide) t_521 0 rfl rfl d_Reader_readClause_29 ?_
  obtain ⟨h32, z32, hE⟩ := bd_some hE
  refine g_callv C0 nd_Reader [70, 2, 10, 11, 12] rfl (sbW_self WReader) (runV C0 (m_Reader_fail l K ad h 1 (h 70 3) z32) 2 rfl ⟨t_644, t_646, t_4, t_98, t_647⟩ cd_Reader_fail (by decide) 0 rfl rfl (sbW_self WReader) nd_Reader rfl rfl (Nat.le_of_ble_eq_true rfl) d_Reader_readClause_32) ?_
  refine g_mx [70, 2, 10, 11, 12] rfl ?_
  obtain rfl := Option.some.inj hE
  exact g_vret C0 hr d_Reader_readClause_35
theorem w_Reader_readClause_J155 {p : Program} {l : Launch} {e : Env} {s : State} {m : MethodId} {args : Array Value} {below : List Frame} {meth : Method} {c : Code} {K : KT} {A : Nat → Prop} (C0 : Cx p s m args meth c prog_8_method_3_code "CanoeSides$Reader" 2 K A) (hr : meth.sig.returnType = (Option.none : Option Jvm.ClassFile.FieldType)) {ad : Nat → Nat} (N : Nat) (h : Hp) {res : Hp} (hE : K_Reader_readClause_J155 N h = some res) : G p l e rm_Reader_readClause s m args below meth c K A WReader 2 0 0 (QV s args below K A WReader 0 0 ad res) 155 [(0, .ref (ad 70))] [] ad h := by
  unfold K_Reader_readClause_J155 at hE
  refine g_aload_n C0 0 d_Reader_readClause_155 rfl rfl ?_
  obtain ⟨h156, z156, hE⟩ := bd_some hE
  refine g_callv C0 nd_Reader [70, 2, 10, 11, 12] rfl (sbW_self WReader) (runV C0 (m_Reader_readEnd l K ad h N z156) 0 rfl ⟨t_698, t_700, t_14, t_98, t_701⟩ cd_Reader_readEnd (by decide) 0 rfl rfl (sbW_self WReader) nd_Reader rfl rfl (Nat.le_of_ble_eq_true rfl) d_Reader_readClause_156) ?_
  refine g_mx [70, 2, 10, 11, 12] rfl ?_
  obtain rfl := Option.some.inj hE
  exact g_vret C0 hr d_Reader_readClause_159
theorem w_Reader_readClause_J36 {p : Program} {l : Launch} {e : Env} {s : State} {m : MethodId} {args : Array Value} {below : List Frame} {meth : Method} {c : Code} {K : KT} {A : Nat → Prop} (C0 : Cx p s m args meth c prog_8_method_3_code "CanoeSides$Reader" 2 K A) (hr : meth.sig.returnType = (Option.none : Option Jvm.ClassFile.FieldType)) {ad : Nat → Nat} (N : Nat) (x1 : Int32) (h : Hp) {res : Hp} (hE : K_Reader_readClause_J36 N x1 h = some res) : G p l e rm_Reader_readClause s m args below meth c K A WReader 2 0 0 (QV s args below K A WReader 0 0 ad res) 36 [(0, .ref (ad 70)), (1, .int x1)] [] ad h := by
  unfold K_Reader_readClause_J36 at hE
  refine g_aload_n C0 0 d_Reader_readClause_36 rfl rfl ?_
  refine g_geti C0 CK_6 4 (by decide) t_522 0 rfl rfl d_Reader_readClause_37 ?_
  refine g_iload_n C0 1 d_Reader_readClause_40 rfl rfl ?_
  refine g_ishr C0 d_Reader_readClause_41 ?_
  refine g_iconst C0 (v := 1) d_Reader_readClause_42 (by decide) ?_
  refine g_iand C0 d_Reader_readClause_43 ?_
  have hB := ite_some hE
  refine g_if_eq C0 (tgt := 57) d_Reader_readClause_44 (by decide) (fun c_ => ?_) (fun c_ => ?_)
  · replace hE := hB.1 c_
    refine g_aload_n C0 0 d_Reader_readClause_57 rfl rfl ?_
    refine g_dup C0 d_Reader_readClause_58 rfl ?_
    refine g_geti C0 CK_6 4 (by decide) t_522 0 rfl rfl d_Reader_readClause_59 ?_
    refine g_iconst C0 (v := 1) d_Reader_readClause_62 (by decide) ?_
    refine g_iload_n C0 1 d_Reader_readClause_63 rfl rfl ?_
    refine g_ishl C0 d_Reader_readClause_64 ?_
    refine g_ior C0 d_Reader_readClause_65 ?_
    obtain ⟨h66, e66, hE⟩ := nm_some hE
    refine g_puti C0 CK_6 CT_6 4 (by decide) t_522 rfl (by decide +kernel) nd_Reader 0 rfl rfl d_Reader_readClause_66 ?_
    refine g_heap e66 ?_
    refine g_aload_n C0 0 d_Reader_readClause_69 rfl rfl ?_
    refine g_dup C0 d_Reader_readClause_70 rfl ?_
    refine g_geti C0 CK_6 3 (by decide) t_521 0 rfl rfl d_Reader_readClause_71 ?_
    refine g_iconst C0 (v := 1) d_Reader_readClause_74 (by decide) ?_
    refine g_iadd C0 d_Reader_readClause_75 ?_
    obtain ⟨h76, e76, hE⟩ := nm_some hE
    refine g_puti C0 CK_6 CT_6 3 (by decide) t_521 rfl (by decide +kernel) nd_Reader 0 rfl rfl d_Reader_readClause_76 ?_
    refine g_heap e76 ?_
    refine g_iload_n C0 1 d_Reader_readClause_79 rfl rfl ?_
    have hB := ite_some hE
    by_cases c_0 : x1 = 0
    · replace hE := hB.1 c_0
      refine g_tableIn C0 (tgt := 116) (off := 36) d_Reader_readClause_80 (by rw [c_0]; decide) (by rw [c_0]; decide) (by rw [c_0]; rfl) (by decide) ?_
      refine g_aload_n C0 0 d_Reader_readClause_116 rfl rfl ?_
      obtain ⟨h117, z117, hE⟩ := bd_some hE
      refine g_callv C0 nd_Reader [70, 2, 10, 11, 12] rfl (sbW_self WReader) (runV C0 (m_Reader_readSquares l K ad h76 N z117) 0 rfl ⟨t_648, t_650, t_5, t_98, t_651⟩ cd_Reader_readSquares (by decide) 0 rfl rfl (sbW_self WReader) nd_Reader rfl rfl (Nat.le_of_ble_eq_true rfl) d_Reader_readClause_117) ?_
      refine g_mx [70, 2, 10, 11, 12] rfl ?_
      refine g_goto C0 (tgt := 155) d_Reader_readClause_120 (by decide) ?_
      refine g_sub [0] (L' := [(0, .ref (ad 70))]) rfl ?_
      exact w_Reader_readClause_J155 C0 hr N h117 hE
    · replace hE := hB.2 c_0
      have hB := ite_some hE
      by_cases c_1 : x1 = 1
      · replace hE := hB.1 c_1
        refine g_tableIn C0 (tgt := 123) (off := 43) d_Reader_readClause_80 (by rw [c_1]; decide) (by rw [c_1]; decide) (by rw [c_1]; rfl) (by decide) ?_
        refine g_aload_n C0 0 d_Reader_readClause_123 rfl rfl ?_
        obtain ⟨h124, z124, hE⟩ := bd_some hE
        refine g_callv C0 nd_Reader [70, 2, 10, 11, 12] rfl (sbW_self WReader) (runV C0 (m_Reader_readStrengths l K ad h76 N z124) 0 rfl ⟨t_672, t_674, t_8, t_98, t_675⟩ cd_Reader_readStrengths (by decide) 0 rfl rfl (sbW_self WReader) nd_Reader rfl rfl (Nat.le_of_ble_eq_true rfl) d_Reader_readClause_124) ?_
        refine g_mx [70, 2, 10, 11, 12] rfl ?_
        refine g_goto C0 (tgt := 155) d_Reader_readClause_127 (by decide) ?_
        refine g_sub [0] (L' := [(0, .ref (ad 70))]) rfl ?_
        exact w_Reader_readClause_J155 C0 hr N h124 hE
      · replace hE := hB.2 c_1
        have hB := ite_some hE
        by_cases c_2 : x1 = 2
        · replace hE := hB.1 c_2
          refine g_tableIn C0 (tgt := 130) (off := 50) d_Reader_readClause_80 (by rw [c_2]; decide) (by rw [c_2]; decide) (by rw [c_2]; rfl) (by decide) ?_
          refine g_aload_n C0 0 d_Reader_readClause_130 rfl rfl ?_
          obtain ⟨h131, z131, hE⟩ := bd_some hE
          refine g_callv C0 nd_Reader [70, 2, 10, 11, 12] rfl (sbW_self WReader) (runV C0 (m_Reader_readBoat l K ad h76 N z131) 0 rfl ⟨t_676, t_678, t_9, t_98, t_679⟩ cd_Reader_readBoat (by decide) 0 rfl rfl (sbW_self WReader) nd_Reader rfl rfl (Nat.le_of_ble_eq_true rfl) d_Reader_readClause_131) ?_
          refine g_mx [70, 2, 10, 11, 12] rfl ?_
          refine g_goto C0 (tgt := 155) d_Reader_readClause_134 (by decide) ?_
          refine g_sub [0] (L' := [(0, .ref (ad 70))]) rfl ?_
          exact w_Reader_readClause_J155 C0 hr N h131 hE
        · replace hE := hB.2 c_2
          have hB := ite_some hE
          by_cases c_3 : x1 = 3
          · replace hE := hB.1 c_3
            refine g_tableIn C0 (tgt := 137) (off := 57) d_Reader_readClause_80 (by rw [c_3]; decide) (by rw [c_3]; decide) (by rw [c_3]; rfl) (by decide) ?_
            refine g_aload_n C0 0 d_Reader_readClause_137 rfl rfl ?_
            obtain ⟨h138, z138, hE⟩ := bd_some hE
            refine g_callv C0 nd_Reader [70, 2, 10, 11, 12] rfl (sbW_self WReader) (runV C0 (m_Reader_readGoal l K ad h76 N z138) 0 rfl ⟨t_685, t_687, t_11, t_98, t_688⟩ cd_Reader_readGoal (by decide) 0 rfl rfl (sbW_self WReader) nd_Reader rfl rfl (Nat.le_of_ble_eq_true rfl) d_Reader_readClause_138) ?_
            refine g_mx [70, 2, 10, 11, 12] rfl ?_
            refine g_goto C0 (tgt := 155) d_Reader_readClause_141 (by decide) ?_
            refine g_sub [0] (L' := [(0, .ref (ad 70))]) rfl ?_
            exact w_Reader_readClause_J155 C0 hr N h138 hE
          · replace hE := hB.2 c_3
            have hB := ite_some hE
            by_cases c_4 : x1 = 4
            · replace hE := hB.1 c_4
              refine g_tableIn C0 (tgt := 144) (off := 64) d_Reader_readClause_80 (by rw [c_4]; decide) (by rw [c_4]; decide) (by rw [c_4]; rfl) (by decide) ?_
              refine g_aload_n C0 0 d_Reader_readClause_144 rfl rfl ?_
              obtain ⟨h145, z145, hE⟩ := bd_some hE
              refine g_callv C0 nd_Reader [70, 2, 10, 11, 12] rfl (sbW_self WReader) (runV C0 (m_Reader_readWind l K ad h76 N z145) 0 rfl ⟨t_689, t_691, t_12, t_98, t_692⟩ cd_Reader_readWind (by decide) 0 rfl rfl (sbW_self WReader) nd_Reader rfl rfl (Nat.le_of_ble_eq_true rfl) d_Reader_readClause_145) ?_
              refine g_mx [70, 2, 10, 11, 12] rfl ?_
              refine g_goto C0 (tgt := 155) d_Reader_readClause_148 (by decide) ?_
              refine g_sub [0] (L' := [(0, .ref (ad 70))]) rfl ?_
              exact w_Reader_readClause_J155 C0 hr N h145 hE
            · replace hE := hB.2 c_4
              refine g_tableOut C0 (tgt := 151) d_Reader_readClause_80 (by have n_0 := i32_ne (j := 0) c_0 (by decide) (by decide); have n_1 := i32_ne (j := 1) c_1 (by decide) (by decide); have n_2 := i32_ne (j := 2) c_2 (by decide) (by decide); have n_3 := i32_ne (j := 3) c_3 (by decide) (by decide); have n_4 := i32_ne (j := 4) c_4 (by decide) (by decide); omega) (by decide) ?_
              refine g_aload_n C0 0 d_Reader_readClause_151 rfl rfl ?_
              obtain ⟨h152, z152, hE⟩ := bd_some hE
              refine g_callv C0 nd_Reader [70, 2, 10, 11, 12] rfl (sbW_self WReader) (runV C0 (m_Reader_readHabits l K ad h76 N z152) 0 rfl ⟨t_693, t_695, t_13, t_98, t_696⟩ cd_Reader_readHabits (by decide) 0 rfl rfl (sbW_self WReader) nd_Reader rfl rfl (Nat.le_of_ble_eq_true rfl) d_Reader_readClause_152) ?_
              refine g_mx [70, 2, 10, 11, 12] rfl ?_
              refine g_sub [0] (L' := [(0, .ref (ad 70))]) rfl ?_
              exact w_Reader_readClause_J155 C0 hr N h152 hE
  · replace hE := hB.2 c_
    refine g_aload_n C0 0 d_Reader_readClause_47 rfl rfl ?_
    refine g_iconst C0 (v := 3) d_Reader_readClause_48 (by decide) ?_
    refine g_aload_n C0 0 d_Reader_readClause_49 rfl rfl ?_
    refine g_geti C0 CK_6 3 (by decide) t_521 0 rfl rfl d_Reader_readClause_50 ?_
    obtain ⟨h53, z53, hE⟩ := bd_some hE
    refine g_callv C0 nd_Reader [70, 2, 10, 11, 12] rfl (sbW_self WReader) (runV C0 (m_Reader_fail l K ad h 3 (h 70 3) z53) 2 rfl ⟨t_644, t_646, t_4, t_98, t_647⟩ cd_Reader_fail (by decide) 0 rfl rfl (sbW_self WReader) nd_Reader rfl rfl (Nat.le_of_ble_eq_true rfl) d_Reader_readClause_53) ?_
    refine g_mx [70, 2, 10, 11, 12] rfl ?_
    obtain rfl := Option.some.inj hE
    exact g_vret C0 hr d_Reader_readClause_56
theorem w_Reader_readClause {p : Program} {l : Launch} {e : Env} {s : State} {m : MethodId} {args : Array Value} {below : List Frame} {meth : Method} {c : Code} {K : KT} {A : Nat → Prop} (C0 : Cx p s m args meth c prog_8_method_3_code "CanoeSides$Reader" 2 K A) (hr : meth.sig.returnType = (Option.none : Option Jvm.ClassFile.FieldType)) {ad : Nat → Nat} (N : Nat) (h : Hp) {res : Hp} (hE : K_Reader_readClause N h = some res) : G p l e rm_Reader_readClause s m args below meth c K A WReader 2 0 0 (QV s args below K A WReader 0 0 ad res) 0 [(0, .ref (ad 70))] [] ad h := by
  unfold K_Reader_readClause at hE
  refine g_ldcS C0 0 (by decide) d_Reader_readClause_0 ?_
  refine g_aload_n C0 0 d_Reader_readClause_2 rfl rfl ?_
  obtain ⟨v3, z3, hE⟩ := bd_some hE
  refine g_calliP C0 nd_Reader [70, 2, 10, 11, 12] rfl (sbW_self WReader) (runV C0 (m_Reader_letterHere l K ad h z3) 0 rfl ⟨t_558, t_560, t_3, t_98, t_561⟩ cd_Reader_letterHere (by decide) 0 rfl rfl (sbW_self WReader) nd_Reader rfl rfl (Nat.le_of_ble_eq_true rfl) d_Reader_readClause_3) ?_
  refine g_i2c C0 d_Reader_readClause_6 ?_
  obtain ⟨v7, e7, hE⟩ := nm_some hE
  refine g_idx C0 nd_Reader t_562 (by decide) (by decide) (Nat.le_of_ble_eq_true rfl) d_Reader_readClause_7 ?_
  refine g_top e7 ?_
  refine g_istore_n C0 [(1, .int v7), (0, .ref (ad 70))] d_Reader_readClause_10 rfl (by decide) rfl ?_
  refine g_iload_n C0 0 d_Reader_readClause_11 rfl rfl ?_
  have hB := ite_some hE
  refine g_if_lt C0 (tgt := 26) d_Reader_readClause_12 (by decide) (fun c_ => ?_) (fun c_ => ?_)
  · replace hE := hB.1 c_
    refine g_sub [1] (L' := [(0, .ref (ad 70))]) rfl ?_
    exact w_Reader_readClause_J26 C0 hr N h hE
  · replace hE := hB.2 c_
    refine g_aload_n C0 1 d_Reader_readClause_15 rfl rfl ?_
    refine g_geti C0 CK_6 4 (by decide) t_522 0 rfl rfl d_Reader_readClause_16 ?_
    have hB := ite_some hE
    refine g_if_ne C0 (tgt := 36) d_Reader_readClause_19 (by decide) (fun c_ => ?_) (fun c_ => ?_)
    · replace hE := hB.2 c_
      refine g_sub [1, 0] (L' := [(0, .ref (ad 70)), (1, .int v7)]) rfl ?_
      exact w_Reader_readClause_J36 C0 hr N v7 h hE
    · replace hE := hB.1 c_
      refine g_iload_n C0 0 d_Reader_readClause_22 rfl rfl ?_
      have hB := ite_some hE
      refine g_if_eq C0 (tgt := 36) d_Reader_readClause_23 (by decide) (fun c_ => ?_) (fun c_ => ?_)
      · replace hE := hB.1 c_
        refine g_sub [1, 0] (L' := [(0, .ref (ad 70)), (1, .int v7)]) rfl ?_
        exact w_Reader_readClause_J36 C0 hr N v7 h hE
      · replace hE := hB.2 c_
        refine g_sub [1] (L' := [(0, .ref (ad 70))]) rfl ?_
        exact w_Reader_readClause_J26 C0 hr N h hE
theorem m_Reader_readClause (l : Launch) (K : KT) (ad : Nat → Nat) (h : Hp) (N : Nat) {res : Hp} (hE : K_Reader_readClause N h = some res) : ConV l y_Reader_readClause prog_8_method_3_code 2 (Option.none : Option Jvm.ClassFile.FieldType) rm_Reader_readClause K WReader ad h [.ref (ad 70)] res := fun sz =>
  con_start [(0, .ref (ad 70))] (by decide +kernel) rfl (Nat.le_of_ble_eq_true rfl) (fun p e s m args below meth c C0 hr hnm hsz => w_Reader_readClause C0 hr N h hE)
