/-! walks, by program -/
abbrev y_JMath_floorMod : MethodName := ⟨"java/lang/Math", "floorMod", "(II)I"⟩
abbrev rm_JMath_floorMod : Room := { frames := 0, cells := 0, slots := 0, locals := 0 }
theorem cd_JMath_floorMod : cwd y_JMath_floorMod 2 := by decide +kernel
theorem d_JMath_floorMod_0 : decode prog_15_method_50_code 0 = .ok (.iload_n 0, 1) := by decide +kernel
theorem d_JMath_floorMod_1 : decode prog_15_method_50_code 1 = .ok (.iload_n 1, 1) := by decide +kernel
theorem d_JMath_floorMod_2 : decode prog_15_method_50_code 2 = .ok (.irem, 1) := by decide +kernel
theorem d_JMath_floorMod_3 : decode prog_15_method_50_code 3 = .ok (.istore_n 2, 1) := by decide +kernel
theorem d_JMath_floorMod_4 : decode prog_15_method_50_code 4 = .ok (.iload_n 0, 1) := by decide +kernel
theorem d_JMath_floorMod_5 : decode prog_15_method_50_code 5 = .ok (.iload_n 1, 1) := by decide +kernel
theorem d_JMath_floorMod_6 : decode prog_15_method_50_code 6 = .ok (.ixor, 1) := by decide +kernel
theorem d_JMath_floorMod_7 : decode prog_15_method_50_code 7 = .ok (.ifCond .ge 11, 3) := by decide +kernel
theorem d_JMath_floorMod_10 : decode prog_15_method_50_code 10 = .ok (.iload_n 2, 1) := by decide +kernel
theorem d_JMath_floorMod_11 : decode prog_15_method_50_code 11 = .ok (.ifCond .eq 7, 3) := by decide +kernel
theorem d_JMath_floorMod_14 : decode prog_15_method_50_code 14 = .ok (.iload_n 2, 1) := by decide +kernel
theorem d_JMath_floorMod_15 : decode prog_15_method_50_code 15 = .ok (.iload_n 1, 1) := by decide +kernel
theorem d_JMath_floorMod_16 : decode prog_15_method_50_code 16 = .ok (.iadd, 1) := by decide +kernel
theorem d_JMath_floorMod_17 : decode prog_15_method_50_code 17 = .ok (.ireturn, 1) := by decide +kernel
theorem d_JMath_floorMod_18 : decode prog_15_method_50_code 18 = .ok (.iload_n 2, 1) := by decide +kernel
theorem d_JMath_floorMod_19 : decode prog_15_method_50_code 19 = .ok (.ireturn, 1) := by decide +kernel
theorem w_JMath_floorMod {p : Program} {l : Launch} {e : Env} {s : State} {m : MethodId} {args : Array Value} {below : List Frame} {meth : Method} {c : Code} {K : KT} {A : Nat → Prop} (C0 : Cx p s m args meth c prog_15_method_50_code "java/lang/Math" 3 K A) (hr : meth.sig.returnType = (Option.some Jvm.ClassFile.FieldType.int)) {ad : Nat → Nat} (a0 : Int32) (b0 : Int32) (h : Hp) {res : Int32} (hE : K_JMath_floorMod a0 b0 = some res) : G p l e rm_JMath_floorMod s m args below meth c K A WE 3 0 0 (QI s args below K A WE 0 0 ad res h) 0 [(0, .int a0), (1, .int b0)] [] ad h := by
  unfold K_JMath_floorMod at hE
  refine g_iload_n C0 0 d_JMath_floorMod_0 rfl rfl ?_
  refine g_iload_n C0 1 d_JMath_floorMod_1 rfl rfl ?_
  obtain ⟨q2, hE⟩ := dz_some hE
  refine g_irem C0 d_JMath_floorMod_2 q2 ?_
  obtain ⟨v3, e3, hE⟩ := nm_some hE
  refine g_top e3 ?_
  refine g_istore_n C0 [(2, .int v3), (0, .int a0), (1, .int b0)] d_JMath_floorMod_3 rfl (by decide) rfl ?_
  refine g_iload_n C0 1 d_JMath_floorMod_4 rfl rfl ?_
  refine g_iload_n C0 2 d_JMath_floorMod_5 rfl rfl ?_
  refine g_ixor C0 d_JMath_floorMod_6 ?_
  have hB := ite_some hE
  refine g_if_ge C0 (tgt := 18) d_JMath_floorMod_7 (by decide) (fun c_ => ?_) (fun c_ => ?_)
  · replace hE := hB.1 c_
    refine g_iload_n C0 0 d_JMath_floorMod_18 rfl rfl ?_
    obtain rfl := Option.some.inj hE
    exact g_iret C0 hr d_JMath_floorMod_19
  · replace hE := hB.2 c_
    refine g_iload_n C0 0 d_JMath_floorMod_10 rfl rfl ?_
    have hB := ite_some hE
    refine g_if_eq C0 (tgt := 18) d_JMath_floorMod_11 (by decide) (fun c_ => ?_) (fun c_ => ?_)
    · replace hE := hB.1 c_
      refine g_iload_n C0 0 d_JMath_floorMod_18 rfl rfl ?_
      obtain rfl := Option.some.inj hE
      exact g_iret C0 hr d_JMath_floorMod_19
    · replace hE := hB.2 c_
      refine g_iload_n C0 0 d_JMath_floorMod_14 rfl rfl ?_
      refine g_iload_n C0 2 d_JMath_floorMod_15 rfl rfl ?_
      refine g_iadd C0 d_JMath_floorMod_16 ?_
      obtain rfl := Option.some.inj hE
      exact g_iret C0 hr d_JMath_floorMod_17
theorem m_JMath_floorMod (l : Launch) (K : KT) (ad : Nat → Nat) (h : Hp) (a0 : Int32) (b0 : Int32) {res : Int32} (hE : K_JMath_floorMod a0 b0 = some res) : ConI l y_JMath_floorMod prog_15_method_50_code 3 (Option.some Jvm.ClassFile.FieldType.int) rm_JMath_floorMod K WE ad h [.int a0, .int b0] res h := fun sz =>
  con_start [(0, .int a0), (1, .int b0)] (by decide +kernel) rfl (Nat.le_of_ble_eq_true rfl) (fun p e s m args below meth c C0 hr hnm hsz => w_JMath_floorMod C0 hr a0 b0 h hE)
abbrev y_JString_isLatin1 : MethodName := ⟨"java/lang/String", "isLatin1", "()Z"⟩
abbrev rm_JString_isLatin1 : Room := { frames := 0, cells := 0, slots := 0, locals := 0 }
theorem cd_JString_isLatin1 : cwd y_JString_isLatin1 0 := by decide +kernel
theorem d_JString_isLatin1_0 : decode prog_16_method_154_code 0 = .ok (.getstatic 38, 3) := by decide +kernel
theorem d_JString_isLatin1_3 : decode prog_16_method_154_code 3 = .ok (.ifCond .eq 14, 3) := by decide +kernel
theorem d_JString_isLatin1_6 : decode prog_16_method_154_code 6 = .ok (.aload_n 0, 1) := by decide +kernel
theorem d_JString_isLatin1_7 : decode prog_16_method_154_code 7 = .ok (.getfield 15, 3) := by decide +kernel
theorem d_JString_isLatin1_10 : decode prog_16_method_154_code 10 = .ok (.ifCond .ne 7, 3) := by decide +kernel
theorem d_JString_isLatin1_13 : decode prog_16_method_154_code 13 = .ok (.iconst 1, 1) := by decide +kernel
theorem d_JString_isLatin1_14 : decode prog_16_method_154_code 14 = .ok (.goto 4, 3) := by decide +kernel
theorem d_JString_isLatin1_17 : decode prog_16_method_154_code 17 = .ok (.iconst 0, 1) := by decide +kernel
theorem d_JString_isLatin1_18 : decode prog_16_method_154_code 18 = .ok (.ireturn, 1) := by decide +kernel
theorem w_JString_isLatin1 {p : Program} {l : Launch} {e : Env} {s : State} {m : MethodId} {args : Array Value} {below : List Frame} {meth : Method} {c : Code} {K : KT} {A : Nat → Prop} (C0 : Cx p s m args meth c prog_16_method_154_code "java/lang/String" 1 K A) (hr : meth.sig.returnType = (Option.some Jvm.ClassFile.FieldType.boolean)) {ad : Nat → Nat} (i0 : Nat) (h : Hp) (hsi0 : i0 < 3) {res : Int32} (hE : K_JString_isLatin1 i0 = some res) : G p l e rm_JString_isLatin1 s m args below meth c K A WE 1 0 0 (QI s args below K A WE 0 0 ad res h) 0 [(0, .ref (K.2.2 (2 + i0)))] [] ad h := by
  unfold K_JString_isLatin1 at hE
  refine g_compact C0 t_574 d_JString_isLatin1_0 ?_
  refine g_if_eq C0 (tgt := 17) d_JString_isLatin1_3 (by decide) (fun c_ => ?_) (fun c_ => ?_)
  · exact absurd c_ (by decide)
  · refine g_aload_n C0 0 d_JString_isLatin1_6 rfl rfl ?_
    refine g_coder C0 hsi0 t_1541 d_JString_isLatin1_7 ?_
    refine g_if_ne C0 (tgt := 17) d_JString_isLatin1_10 (by decide) (fun c_ => ?_) (fun c_ => ?_)
    · exact absurd c_ (by decide)
    · refine g_iconst C0 (v := 1) d_JString_isLatin1_13 (by decide) ?_
      refine g_goto C0 (tgt := 18) d_JString_isLatin1_14 (by decide) ?_
      obtain rfl := Option.some.inj hE
      exact g_zret C0 hr nz1 d_JString_isLatin1_18
theorem m_JString_isLatin1 (l : Launch) (K : KT) (ad : Nat → Nat) (h : Hp) (i0 : Nat) (hsi0 : i0 < 3) {res : Int32} (hE : K_JString_isLatin1 i0 = some res) : ConI l y_JString_isLatin1 prog_16_method_154_code 1 (Option.some Jvm.ClassFile.FieldType.boolean) rm_JString_isLatin1 K WE ad h [.ref (K.2.2 (2 + i0))] res h := fun sz =>
  con_start [(0, .ref (K.2.2 (2 + i0)))] (by decide +kernel) rfl (Nat.le_of_ble_eq_true rfl) (fun p e s m args below meth c C0 hr hnm hsz => w_JString_isLatin1 C0 hr i0 h hsi0 hE)
abbrev y_JString_coder : MethodName := ⟨"java/lang/String", "coder", "()B"⟩
abbrev rm_JString_coder : Room := { frames := 0, cells := 0, slots := 0, locals := 0 }
theorem cd_JString_coder : cwd y_JString_coder 0 := by decide +kernel
theorem d_JString_coder_0 : decode prog_16_method_152_code 0 = .ok (.getstatic 38, 3) := by decide +kernel
theorem d_JString_coder_3 : decode prog_16_method_152_code 3 = .ok (.ifCond .eq 10, 3) := by decide +kernel
theorem d_JString_coder_6 : decode prog_16_method_152_code 6 = .ok (.aload_n 0, 1) := by decide +kernel
theorem d_JString_coder_7 : decode prog_16_method_152_code 7 = .ok (.getfield 15, 3) := by decide +kernel
theorem d_JString_coder_10 : decode prog_16_method_152_code 10 = .ok (.goto 4, 3) := by decide +kernel
theorem d_JString_coder_13 : decode prog_16_method_152_code 13 = .ok (.iconst 1, 1) := by decide +kernel
theorem d_JString_coder_14 : decode prog_16_method_152_code 14 = .ok (.ireturn, 1) := by decide +kernel
theorem w_JString_coder {p : Program} {l : Launch} {e : Env} {s : State} {m : MethodId} {args : Array Value} {below : List Frame} {meth : Method} {c : Code} {K : KT} {A : Nat → Prop} (C0 : Cx p s m args meth c prog_16_method_152_code "java/lang/String" 1 K A) (hr : meth.sig.returnType = (Option.some Jvm.ClassFile.FieldType.byte)) {ad : Nat → Nat} (i0 : Nat) (h : Hp) (hsi0 : i0 < 3) {res : Int32} (hE : K_JString_coder i0 = some res) : G p l e rm_JString_coder s m args below meth c K A WE 1 0 0 (QI s args below K A WE 0 0 ad res h) 0 [(0, .ref (K.2.2 (2 + i0)))] [] ad h := by
  unfold K_JString_coder at hE
  refine g_compact C0 t_574 d_JString_coder_0 ?_
  refine g_if_eq C0 (tgt := 13) d_JString_coder_3 (by decide) (fun c_ => ?_) (fun c_ => ?_)
  · exact absurd c_ (by decide)
  · refine g_aload_n C0 0 d_JString_coder_6 rfl rfl ?_
    refine g_coder C0 hsi0 t_1541 d_JString_coder_7 ?_
    refine g_goto C0 (tgt := 14) d_JString_coder_10 (by decide) ?_
    obtain rfl := Option.some.inj hE
    exact g_zret C0 hr nb0 d_JString_coder_14
theorem m_JString_coder (l : Launch) (K : KT) (ad : Nat → Nat) (h : Hp) (i0 : Nat) (hsi0 : i0 < 3) {res : Int32} (hE : K_JString_coder i0 = some res) : ConI l y_JString_coder prog_16_method_152_code 1 (Option.some Jvm.ClassFile.FieldType.byte) rm_JString_coder K WE ad h [.ref (K.2.2 (2 + i0))] res h := fun sz =>
  con_start [(0, .ref (K.2.2 (2 + i0)))] (by decide +kernel) rfl (Nat.le_of_ble_eq_true rfl) (fun p e s m args below meth c C0 hr hnm hsz => w_JString_coder C0 hr i0 h hsi0 hE)
abbrev y_JString_length : MethodName := ⟨"java/lang/String", "length", "()I"⟩
abbrev rm_JString_length : Room := { frames := 1, cells := 0, slots := 0, locals := 20 }
theorem cd_JString_length : cwd y_JString_length 0 := by decide +kernel
theorem d_JString_length_0 : decode prog_16_method_54_code 0 = .ok (.aload_n 0, 1) := by decide +kernel
theorem d_JString_length_1 : decode prog_16_method_54_code 1 = .ok (.getfield 9, 3) := by decide +kernel
theorem d_JString_length_4 : decode prog_16_method_54_code 4 = .ok (.arraylength, 1) := by decide +kernel
theorem d_JString_length_5 : decode prog_16_method_54_code 5 = .ok (.aload_n 0, 1) := by decide +kernel
theorem d_JString_length_6 : decode prog_16_method_54_code 6 = .ok (.invokevirtual 335, 3) := by decide +kernel
theorem d_JString_length_9 : decode prog_16_method_54_code 9 = .ok (.ishr, 1) := by decide +kernel
theorem d_JString_length_10 : decode prog_16_method_54_code 10 = .ok (.ireturn, 1) := by decide +kernel
theorem w_JString_length {p : Program} {l : Launch} {e : Env} {s : State} {m : MethodId} {args : Array Value} {below : List Frame} {meth : Method} {c : Code} {K : KT} {A : Nat → Prop} (C0 : Cx p s m args meth c prog_16_method_54_code "java/lang/String" 1 K A) (hr : meth.sig.returnType = (Option.some Jvm.ClassFile.FieldType.int)) {ad : Nat → Nat} (i0 : Nat) (h : Hp) (hsi0 : i0 < 3) {res : Int32} (hE : K_JString_length i0 = some res) : G p l e rm_JString_length s m args below meth c K A WE 1 0 0 (QI s args below K A WE 0 0 ad res h) 0 [(0, .ref (K.2.2 (2 + i0)))] [] ad h := by
  unfold K_JString_length at hE
  refine g_aload_n C0 0 d_JString_length_0 rfl rfl ?_
  refine g_value C0 hsi0 t_1542 d_JString_length_1 ?_
  refine g_alenS C0 hsi0 d_JString_length_4 ?_
  refine g_aload_n C0 0 d_JString_length_5 rfl rfl ?_
  obtain ⟨v6, z6, hE⟩ := bd_some hE
  refine g_calliP C0 nd_E [] rfl (sbW_self WE) (runVX C0 (m_JString_coder l K ad h i0 hsi0 z6) 0 rfl ⟨t_580, t_581, t_582, t_99, t_583⟩ cd_JString_coder (by decide) hsi0 (sbW_self WE) nd_E rfl rfl (Nat.le_of_ble_eq_true rfl) d_JString_length_6) ?_
  refine g_ishr C0 d_JString_length_9 ?_
  obtain rfl := Option.some.inj hE
  exact g_iret C0 hr d_JString_length_10
theorem m_JString_length (l : Launch) (K : KT) (ad : Nat → Nat) (h : Hp) (i0 : Nat) (hsi0 : i0 < 3) {res : Int32} (hE : K_JString_length i0 = some res) : ConI l y_JString_length prog_16_method_54_code 1 (Option.some Jvm.ClassFile.FieldType.int) rm_JString_length K WE ad h [.ref (K.2.2 (2 + i0))] res h := fun sz =>
  con_start [(0, .ref (K.2.2 (2 + i0)))] (by decide +kernel) rfl (Nat.le_of_ble_eq_true rfl) (fun p e s m args below meth c C0 hr hnm hsz => w_JString_length C0 hr i0 h hsi0 hE)
abbrev y_JStringLatin1_canEncode : MethodName := ⟨"java/lang/StringLatin1", "canEncode", "(I)Z"⟩
abbrev rm_JStringLatin1_canEncode : Room := { frames := 0, cells := 0, slots := 0, locals := 0 }
theorem cd_JStringLatin1_canEncode : cwd y_JStringLatin1_canEncode 1 := by decide +kernel
theorem d_JStringLatin1_canEncode_0 : decode prog_17_method_4_code 0 = .ok (.iload_n 0, 1) := by decide +kernel
theorem d_JStringLatin1_canEncode_1 : decode prog_17_method_4_code 1 = .ok (.ifCond .lt 14, 3) := by decide +kernel
theorem d_JStringLatin1_canEncode_4 : decode prog_17_method_4_code 4 = .ok (.iload_n 0, 1) := by decide +kernel
theorem d_JStringLatin1_canEncode_5 : decode prog_17_method_4_code 5 = .ok (.sipush 255, 3) := by decide +kernel
theorem d_JStringLatin1_canEncode_8 : decode prog_17_method_4_code 8 = .ok (.if_icmp .gt 7, 3) := by decide +kernel
theorem d_JStringLatin1_canEncode_11 : decode prog_17_method_4_code 11 = .ok (.iconst 1, 1) := by decide +kernel
theorem d_JStringLatin1_canEncode_12 : decode prog_17_method_4_code 12 = .ok (.goto 4, 3) := by decide +kernel
theorem d_JStringLatin1_canEncode_15 : decode prog_17_method_4_code 15 = .ok (.iconst 0, 1) := by decide +kernel
theorem d_JStringLatin1_canEncode_16 : decode prog_17_method_4_code 16 = .ok (.ireturn, 1) := by decide +kernel
theorem w_JStringLatin1_canEncode {p : Program} {l : Launch} {e : Env} {s : State} {m : MethodId} {args : Array Value} {below : List Frame} {meth : Method} {c : Code} {K : KT} {A : Nat → Prop} (C0 : Cx p s m args meth c prog_17_method_4_code "java/lang/StringLatin1" 1 K A) (hr : meth.sig.returnType = (Option.some Jvm.ClassFile.FieldType.boolean)) {ad : Nat → Nat} (a0 : Int32) (h : Hp) {res : Int32} (hE : K_JStringLatin1_canEncode a0 = some res) : G p l e rm_JStringLatin1_canEncode s m args below meth c K A WE 1 0 0 (QI s args below K A WE 0 0 ad res h) 0 [(0, .int a0)] [] ad h := by
  unfold K_JStringLatin1_canEncode at hE
  refine g_iload_n C0 0 d_JStringLatin1_canEncode_0 rfl rfl ?_
  have hB := ite_some hE
  refine g_if_lt C0 (tgt := 15) d_JStringLatin1_canEncode_1 (by decide) (fun c_ => ?_) (fun c_ => ?_)
  · replace hE := hB.1 c_
    refine g_iconst C0 (v := 0) d_JStringLatin1_canEncode_15 (by decide) ?_
    obtain rfl := Option.some.inj hE
    exact g_zret C0 hr nz0 d_JStringLatin1_canEncode_16
  · replace hE := hB.2 c_
    refine g_iload_n C0 0 d_JStringLatin1_canEncode_4 rfl rfl ?_
    refine g_sipush C0 (v := 255) d_JStringLatin1_canEncode_5 (by decide) ?_
    have hB := ite_some hE
    refine g_icmp_gt C0 (tgt := 15) d_JStringLatin1_canEncode_8 (by decide) (fun c_ => ?_) (fun c_ => ?_)
    · replace hE := hB.1 c_
      refine g_iconst C0 (v := 0) d_JStringLatin1_canEncode_15 (by decide) ?_
      obtain rfl := Option.some.inj hE
      exact g_zret C0 hr nz0 d_JStringLatin1_canEncode_16
    · replace hE := hB.2 c_
      refine g_iconst C0 (v := 1) d_JStringLatin1_canEncode_11 (by decide) ?_
      refine g_goto C0 (tgt := 16) d_JStringLatin1_canEncode_12 (by decide) ?_
      obtain rfl := Option.some.inj hE
      exact g_zret C0 hr nz1 d_JStringLatin1_canEncode_16
theorem m_JStringLatin1_canEncode (l : Launch) (K : KT) (ad : Nat → Nat) (h : Hp) (a0 : Int32) {res : Int32} (hE : K_JStringLatin1_canEncode a0 = some res) : ConI l y_JStringLatin1_canEncode prog_17_method_4_code 1 (Option.some Jvm.ClassFile.FieldType.boolean) rm_JStringLatin1_canEncode K WE ad h [.int a0] res h := fun sz =>
  con_start [(0, .int a0)] (by decide +kernel) rfl (Nat.le_of_ble_eq_true rfl) (fun p e s m args below meth c C0 hr hnm hsz => w_JStringLatin1_canEncode C0 hr a0 h hE)
abbrev y_JStringLatin1_indexOfChar : MethodName := ⟨"java/lang/StringLatin1", "indexOfChar", "([BIII)I"⟩
abbrev rm_JStringLatin1_indexOfChar : Room := { frames := 0, cells := 0, slots := 0, locals := 0 }
theorem cd_JStringLatin1_indexOfChar : cwd y_JStringLatin1_indexOfChar 4 := by decide +kernel
theorem d_JStringLatin1_indexOfChar_0 : decode prog_17_method_23_code 0 = .ok (.iload_n 1, 1) := by decide +kernel
theorem d_JStringLatin1_indexOfChar_1 : decode prog_17_method_23_code 1 = .ok (.i2b, 1) := by decide +kernel
theorem d_JStringLatin1_indexOfChar_2 : decode prog_17_method_23_code 2 = .ok (.istore 4, 2) := by decide +kernel
theorem d_JStringLatin1_indexOfChar_4 : decode prog_17_method_23_code 4 = .ok (.iload_n 2, 1) := by decide +kernel
theorem d_JStringLatin1_indexOfChar_5 : decode prog_17_method_23_code 5 = .ok (.istore 5, 2) := by decide +kernel
theorem d_JStringLatin1_indexOfChar_7 : decode prog_17_method_23_code 7 = .ok (.iload 5, 2) := by decide +kernel
theorem d_JStringLatin1_indexOfChar_9 : decode prog_17_method_23_code 9 = .ok (.iload_n 3, 1) := by decide +kernel
theorem d_JStringLatin1_indexOfChar_10 : decode prog_17_method_23_code 10 = .ok (.if_icmp .ge 21, 3) := by decide +kernel
theorem d_JStringLatin1_indexOfChar_13 : decode prog_17_method_23_code 13 = .ok (.aload_n 0, 1) := by decide +kernel
theorem d_JStringLatin1_indexOfChar_14 : decode prog_17_method_23_code 14 = .ok (.iload 5, 2) := by decide +kernel
theorem d_JStringLatin1_indexOfChar_16 : decode prog_17_method_23_code 16 = .ok (.baload, 1) := by decide +kernel
theorem d_JStringLatin1_indexOfChar_17 : decode prog_17_method_23_code 17 = .ok (.iload 4, 2) := by decide +kernel
theorem d_JStringLatin1_indexOfChar_19 : decode prog_17_method_23_code 19 = .ok (.if_icmp .ne 6, 3) := by decide +kernel
theorem d_JStringLatin1_indexOfChar_22 : decode prog_17_method_23_code 22 = .ok (.iload 5, 2) := by decide +kernel
theorem d_JStringLatin1_indexOfChar_24 : decode prog_17_method_23_code 24 = .ok (.ireturn, 1) := by decide +kernel
theorem d_JStringLatin1_indexOfChar_25 : decode prog_17_method_23_code 25 = .ok (.iinc 5 1, 3) := by decide +kernel
theorem d_JStringLatin1_indexOfChar_28 : decode prog_17_method_23_code 28 = .ok (.goto (-21), 3) := by decide +kernel
theorem d_JStringLatin1_indexOfChar_31 : decode prog_17_method_23_code 31 = .ok (.iconst (-1), 1) := by decide +kernel
theorem d_JStringLatin1_indexOfChar_32 : decode prog_17_method_23_code 32 = .ok (.ireturn, 1) := by decide +kernel
theorem w_JStringLatin1_indexOfChar_L7 {p : Program} {l : Launch} {e : Env} {s : State} {m : MethodId} {args : Array Value} {below : List Frame} {meth : Method} {c : Code} {K : KT} {A : Nat → Prop} {Q : State → Prop} (C0 : Cx p s m args meth c prog_17_method_23_code "java/lang/StringLatin1" 6 K A) (hr : meth.sig.returnType = (Option.some Jvm.ClassFile.FieldType.int)) {ad : Nat → Nat} (N : Nat) (a0 : Nat) (x3 : Int32) (x4 : Int32) (x5 : Int32) (h : Hp) (hsa0 : a0 < 3) {x_ : (Int32) ⊕ (Int32) ⊕ (Unit)} (hE : K_JStringLatin1_indexOfChar_L7 N a0 x3 x4 x5 = some x_) (hk1 : ∀ z_, x_ = .inl z_ → G p l e rm_JStringLatin1_indexOfChar s m args below meth c K A WE 6 0 0 Q 7 [(0, .ref (K.2.2 (5 + a0))), (3, .int x3), (4, .int x4), (5, .int z_)] [] ad h) (hk2 : ∀ r_, x_ = .inr (.inl r_) → Q = (QI s args below K A WE 0 0 ad r_ h)) (hk3 : ∀ z_, x_ = .inr (.inr z_) → G p l e rm_JStringLatin1_indexOfChar s m args below meth c K A WE 6 0 0 Q 31 [] [] ad h) : G p l e rm_JStringLatin1_indexOfChar s m args below meth c K A WE 6 0 0 Q 7 [(0, .ref (K.2.2 (5 + a0))), (3, .int x3), (4, .int x4), (5, .int x5)] [] ad h := by
  unfold K_JStringLatin1_indexOfChar_L7 at hE
  refine g_iload C0 3 d_JStringLatin1_indexOfChar_7 rfl ?_
  refine g_iload_n C0 1 d_JStringLatin1_indexOfChar_9 rfl rfl ?_
  have hB := ite_some hE
  refine g_icmp_ge C0 (tgt := 31) d_JStringLatin1_indexOfChar_10 (by decide) (fun c_ => ?_) (fun c_ => ?_)
  · replace hE := hB.1 c_
    refine g_sub [] (L' := []) rfl ?_
    exact hk3 _ (Option.some.inj hE).symm
  · replace hE := hB.2 c_
    refine g_aload_n C0 0 d_JStringLatin1_indexOfChar_13 rfl rfl ?_
    refine g_iload C0 3 d_JStringLatin1_indexOfChar_14 rfl ?_
    obtain ⟨q16, v16, e16, hE⟩ := gA_some hE
    refine g_baldS C0 hsa0 q16 d_JStringLatin1_indexOfChar_16 ?_
    refine g_top e16 ?_
    refine g_iload C0 2 d_JStringLatin1_indexOfChar_17 rfl ?_
    have hB := ite_some hE
    refine g_icmp_ne C0 (tgt := 25) d_JStringLatin1_indexOfChar_19 (by decide) (fun c_ => ?_) (fun c_ => ?_)
    · replace hE := hB.2 c_
      obtain ⟨v25, e25, hE⟩ := nm_some hE
      refine g_iinc C0 3 [(5, .int v25), (0, .ref (K.2.2 (5 + a0))), (3, .int x3), (4, .int x4)] d_JStringLatin1_indexOfChar_25 rfl (by rw [e25]; rfl) (by decide) rfl ?_
      refine g_goto C0 (tgt := 7) d_JStringLatin1_indexOfChar_28 (by decide) ?_
      refine g_sub [1, 2, 3, 0] (L' := [(0, .ref (K.2.2 (5 + a0))), (3, .int x3), (4, .int x4), (5, .int v25)]) rfl ?_
      exact hk1 _ (Option.some.inj hE).symm
    · replace hE := hB.1 c_
      refine g_iload C0 3 d_JStringLatin1_indexOfChar_22 rfl ?_
      have hq := hk2 _ (Option.some.inj hE).symm
      rw [hq]
      exact g_iret C0 hr d_JStringLatin1_indexOfChar_24
theorem w_JStringLatin1_indexOfChar {p : Program} {l : Launch} {e : Env} {s : State} {m : MethodId} {args : Array Value} {below : List Frame} {meth : Method} {c : Code} {K : KT} {A : Nat → Prop} (C0 : Cx p s m args meth c prog_17_method_23_code "java/lang/StringLatin1" 6 K A) (hr : meth.sig.returnType = (Option.some Jvm.ClassFile.FieldType.int)) {ad : Nat → Nat} (N : Nat) (a0 : Nat) (b0 : Int32) (c0 : Int32) (d0 : Int32) (h : Hp) (hsa0 : a0 < 3) {res : Int32} (hE : K_JStringLatin1_indexOfChar N a0 b0 c0 d0 = some res) : G p l e rm_JStringLatin1_indexOfChar s m args below meth c K A WE 6 0 0 (QI s args below K A WE 0 0 ad res h) 0 [(0, .ref (K.2.2 (5 + a0))), (1, .int b0), (2, .int c0), (3, .int d0)] [] ad h := by
  unfold K_JStringLatin1_indexOfChar at hE
  refine g_iload_n C0 1 d_JStringLatin1_indexOfChar_0 rfl rfl ?_
  refine g_i2b C0 d_JStringLatin1_indexOfChar_1 ?_
  obtain ⟨v2, e2, hE⟩ := nm_some hE
  refine g_top e2 ?_
  refine g_istore C0 [(4, .int v2), (0, .ref (K.2.2 (5 + a0))), (1, .int b0), (2, .int c0), (3, .int d0)] d_JStringLatin1_indexOfChar_2 (by decide) rfl ?_
  refine g_iload_n C0 3 d_JStringLatin1_indexOfChar_4 rfl rfl ?_
  refine g_istore C0 [(5, .int c0), (4, .int v2), (0, .ref (K.2.2 (5 + a0))), (1, .int b0), (2, .int c0), (3, .int d0)] d_JStringLatin1_indexOfChar_5 (by decide) rfl ?_
  refine g_sub [2, 5, 1, 0] (L' := [(0, .ref (K.2.2 (5 + a0))), (3, .int d0), (4, .int v2), (5, .int c0)]) rfl ?_
  obtain ⟨t7, z7, hE⟩ := bd_some hE
  refine loopG (fun z_ : Int32 => K_JStringLatin1_indexOfChar_L7 N a0 d0 v2 z_) (fun z_ : Int32 => G p l e rm_JStringLatin1_indexOfChar s m args below meth c K A WE 6 0 0 _ 7 [(0, .ref (K.2.2 (5 + a0))), (3, .int d0), (4, .int v2), (5, .int z_)] [] ad h) (fun z_ : (Int32) ⊕ (Unit) => (∀ r_, z_ = .inl r_ → _ = (QI s args below K A WE 0 0 ad r_ h)) ∧ (∀ y_, z_ = .inr y_ → G p l e rm_JStringLatin1_indexOfChar s m args below meth c K A WE 6 0 0 _ 31 [] [] ad h)) (fun z_ x_ hz k1 k2 => w_JStringLatin1_indexOfChar_L7 C0 hr N a0 d0 v2 z_ h hsa0 hz k1 (fun r_ hr_ => (k2 _ hr_).1 _ rfl) (fun y_ hy_ => (k2 _ hy_).2 _ rfl)) _ _ _ z7 ?_
  refine ⟨fun r_ e_ => ?_, fun t7x e_ => ?_⟩
  · subst e_
    replace hE := el_inl hE
    exact Option.some.inj hE ▸ rfl
  · subst e_
    replace hE := el_inr hE
    try dsimp only
    refine g_iconst C0 (v := (-1)) d_JStringLatin1_indexOfChar_31 (by decide) ?_
    obtain rfl := Option.some.inj hE
    exact g_iret C0 hr d_JStringLatin1_indexOfChar_32
theorem m_JStringLatin1_indexOfChar (l : Launch) (K : KT) (ad : Nat → Nat) (h : Hp) (N : Nat) (a0 : Nat) (b0 : Int32) (c0 : Int32) (d0 : Int32) (hsa0 : a0 < 3) {res : Int32} (hE : K_JStringLatin1_indexOfChar N a0 b0 c0 d0 = some res) : ConI l y_JStringLatin1_indexOfChar prog_17_method_23_code 6 (Option.some Jvm.ClassFile.FieldType.int) rm_JStringLatin1_indexOfChar K WE ad h [.ref (K.2.2 (5 + a0)), .int b0, .int c0, .int d0] res h := fun sz =>
  con_start [(0, .ref (K.2.2 (5 + a0))), (1, .int b0), (2, .int c0), (3, .int d0)] (by decide +kernel) rfl (Nat.le_of_ble_eq_true rfl) (fun p e s m args below meth c C0 hr hnm hsz => w_JStringLatin1_indexOfChar C0 hr N a0 b0 c0 d0 h hsa0 hE)
abbrev y_JStringLatin1_indexOf : MethodName := ⟨"java/lang/StringLatin1", "indexOf", "([BIII)I"⟩
abbrev rm_JStringLatin1_indexOf : Room := { frames := 1, cells := 0, slots := 0, locals := 25 }
theorem cd_JStringLatin1_indexOf : cwd y_JStringLatin1_indexOf 4 := by decide +kernel
theorem d_JStringLatin1_indexOf_0 : decode prog_17_method_22_code 0 = .ok (.iload_n 1, 1) := by decide +kernel
theorem d_JStringLatin1_indexOf_1 : decode prog_17_method_22_code 1 = .ok (.invokestatic 88, 3) := by decide +kernel
theorem d_JStringLatin1_indexOf_4 : decode prog_17_method_22_code 4 = .ok (.ifCond .ne 5, 3) := by decide +kernel
theorem d_JStringLatin1_indexOf_7 : decode prog_17_method_22_code 7 = .ok (.iconst (-1), 1) := by decide +kernel
theorem d_JStringLatin1_indexOf_8 : decode prog_17_method_22_code 8 = .ok (.ireturn, 1) := by decide +kernel
theorem d_JStringLatin1_indexOf_9 : decode prog_17_method_22_code 9 = .ok (.iload_n 2, 1) := by decide +kernel
theorem d_JStringLatin1_indexOf_10 : decode prog_17_method_22_code 10 = .ok (.iconst 0, 1) := by decide +kernel
theorem d_JStringLatin1_indexOf_11 : decode prog_17_method_22_code 11 = .ok (.invokestatic 92, 3) := by decide +kernel
theorem d_JStringLatin1_indexOf_14 : decode prog_17_method_22_code 14 = .ok (.istore_n 2, 1) := by decide +kernel
theorem d_JStringLatin1_indexOf_15 : decode prog_17_method_22_code 15 = .ok (.iload_n 3, 1) := by decide +kernel
theorem d_JStringLatin1_indexOf_16 : decode prog_17_method_22_code 16 = .ok (.aload_n 0, 1) := by decide +kernel
theorem d_JStringLatin1_indexOf_17 : decode prog_17_method_22_code 17 = .ok (.arraylength, 1) := by decide +kernel
theorem d_JStringLatin1_indexOf_18 : decode prog_17_method_22_code 18 = .ok (.invokestatic 38, 3) := by decide +kernel
theorem d_JStringLatin1_indexOf_21 : decode prog_17_method_22_code 21 = .ok (.istore_n 3, 1) := by decide +kernel
theorem d_JStringLatin1_indexOf_22 : decode prog_17_method_22_code 22 = .ok (.iload_n 2, 1) := by decide +kernel
theorem d_JStringLatin1_indexOf_23 : decode prog_17_method_22_code 23 = .ok (.iload_n 3, 1) := by decide +kernel
theorem d_JStringLatin1_indexOf_24 : decode prog_17_method_22_code 24 = .ok (.if_icmp .lt 5, 3) := by decide +kernel
theorem d_JStringLatin1_indexOf_27 : decode prog_17_method_22_code 27 = .ok (.iconst (-1), 1) := by decide +kernel
theorem d_JStringLatin1_indexOf_28 : decode prog_17_method_22_code 28 = .ok (.ireturn, 1) := by decide +kernel
theorem d_JStringLatin1_indexOf_29 : decode prog_17_method_22_code 29 = .ok (.aload_n 0, 1) := by decide +kernel
theorem d_JStringLatin1_indexOf_30 : decode prog_17_method_22_code 30 = .ok (.iload_n 1, 1) := by decide +kernel
theorem d_JStringLatin1_indexOf_31 : decode prog_17_method_22_code 31 = .ok (.iload_n 2, 1) := by decide +kernel
theorem d_JStringLatin1_indexOf_32 : decode prog_17_method_22_code 32 = .ok (.iload_n 3, 1) := by decide +kernel
theorem d_JStringLatin1_indexOf_33 : decode prog_17_method_22_code 33 = .ok (.invokestatic 95, 3) := by decide +kernel
theorem d_JStringLatin1_indexOf_36 : decode prog_17_method_22_code 36 = .ok (.ireturn, 1) := by decide +kernel
theorem w_JStringLatin1_indexOf {p : Program} {l : Launch} {e : Env} {s : State} {m : MethodId} {args : Array Value} {below : List Frame} {meth : Method} {c : Code} {K : KT} {A : Nat → Prop} (C0 : Cx p s m args meth c prog_17_method_22_code "java/lang/StringLatin1" 4 K A) (hr : meth.sig.returnType = (Option.some Jvm.ClassFile.FieldType.int)) {ad : Nat → Nat} (N : Nat) (a0 : Nat) (b0 : Int32) (c0 : Int32) (d0 : Int32) (h : Hp) (hsa0 : a0 < 3) {res : Int32} (hE : K_JStringLatin1_indexOf N a0 b0 c0 d0 = some res) : G p l e rm_JStringLatin1_indexOf s m args below meth c K A WE 4 0 0 (QI s args below K A WE 0 0 ad res h) 0 [(0, .ref (K.2.2 (5 + a0))), (1, .int b0), (2, .int c0), (3, .int d0)] [] ad h := by
  unfold K_JStringLatin1_indexOf at hE
  refine g_iload_n C0 1 d_JStringLatin1_indexOf_0 rfl rfl ?_
  obtain ⟨v1, z1, hE⟩ := bd_some hE
  refine g_calliP C0 nd_E [] rfl (sbW_self WE) (runS C0 (m_JStringLatin1_canEncode l K ad h b0 z1) 1 ⟨t_587, t_588, t_100, t_589⟩ cd_JStringLatin1_canEncode (by decide) (sbW_self WE) nd_E rfl rfl (Nat.le_of_ble_eq_true rfl) d_JStringLatin1_indexOf_1) ?_
  have hB := ite_some hE
  refine g_if_ne C0 (tgt := 9) d_JStringLatin1_indexOf_4 (by decide) (fun c_ => ?_) (fun c_ => ?_)
  · replace hE := hB.2 c_
    refine g_iload_n C0 2 d_JStringLatin1_indexOf_9 rfl rfl ?_
    refine g_iconst C0 (v := 0) d_JStringLatin1_indexOf_10 (by decide) ?_
    refine g_max C0 t_590 ⟨Nat.le_of_ble_eq_true rfl, Nat.le_of_ble_eq_true rfl, Nat.zero_le _, Nat.zero_le _⟩ d_JStringLatin1_indexOf_11 ?_
    obtain ⟨v14, e14, hE⟩ := nm_some hE
    refine g_top e14 ?_
    refine g_istore_n C0 [(2, .int v14), (0, .ref (K.2.2 (5 + a0))), (1, .int b0), (3, .int d0)] d_JStringLatin1_indexOf_14 rfl (by decide) rfl ?_
    refine g_iload_n C0 3 d_JStringLatin1_indexOf_15 rfl rfl ?_
    refine g_aload_n C0 1 d_JStringLatin1_indexOf_16 rfl rfl ?_
    refine g_alenS C0 hsa0 d_JStringLatin1_indexOf_17 ?_
    refine g_min C0 t_591 ⟨Nat.le_of_ble_eq_true rfl, Nat.le_of_ble_eq_true rfl, Nat.zero_le _, Nat.zero_le _⟩ d_JStringLatin1_indexOf_18 ?_
    obtain ⟨v21, e21, hE⟩ := nm_some hE
    refine g_top e21 ?_
    refine g_istore_n C0 [(3, .int v21), (2, .int v14), (0, .ref (K.2.2 (5 + a0))), (1, .int b0)] d_JStringLatin1_indexOf_21 rfl (by decide) rfl ?_
    refine g_iload_n C0 1 d_JStringLatin1_indexOf_22 rfl rfl ?_
    refine g_iload_n C0 0 d_JStringLatin1_indexOf_23 rfl rfl ?_
    have hB := ite_some hE
    refine g_icmp_lt C0 (tgt := 29) d_JStringLatin1_indexOf_24 (by decide) (fun c_ => ?_) (fun c_ => ?_)
    · replace hE := hB.1 c_
      refine g_aload_n C0 2 d_JStringLatin1_indexOf_29 rfl rfl ?_
      refine g_iload_n C0 3 d_JStringLatin1_indexOf_30 rfl rfl ?_
      refine g_iload_n C0 1 d_JStringLatin1_indexOf_31 rfl rfl ?_
      refine g_iload_n C0 0 d_JStringLatin1_indexOf_32 rfl rfl ?_
      obtain ⟨v33, z33, hE⟩ := bd_some hE
      refine g_calliP C0 nd_E [] rfl (sbW_self WE) (runS C0 (m_JStringLatin1_indexOfChar l K ad h N a0 b0 v14 v21 hsa0 z33) 4 ⟨t_592, t_593, t_100, t_594⟩ cd_JStringLatin1_indexOfChar (by decide) (sbW_self WE) nd_E rfl rfl (Nat.le_of_ble_eq_true rfl) d_JStringLatin1_indexOf_33) ?_
      obtain rfl := Option.some.inj hE
      exact g_iret C0 hr d_JStringLatin1_indexOf_36
    · replace hE := hB.2 c_
      refine g_iconst C0 (v := (-1)) d_JStringLatin1_indexOf_27 (by decide) ?_
      obtain rfl := Option.some.inj hE
      exact g_iret C0 hr d_JStringLatin1_indexOf_28
  · replace hE := hB.1 c_
    refine g_iconst C0 (v := (-1)) d_JStringLatin1_indexOf_7 (by decide) ?_
    obtain rfl := Option.some.inj hE
    exact g_iret C0 hr d_JStringLatin1_indexOf_8
theorem m_JStringLatin1_indexOf (l : Launch) (K : KT) (ad : Nat → Nat) (h : Hp) (N : Nat) (a0 : Nat) (b0 : Int32) (c0 : Int32) (d0 : Int32) (hsa0 : a0 < 3) {res : Int32} (hE : K_JStringLatin1_indexOf N a0 b0 c0 d0 = some res) : ConI l y_JStringLatin1_indexOf prog_17_method_22_code 4 (Option.some Jvm.ClassFile.FieldType.int) rm_JStringLatin1_indexOf K WE ad h [.ref (K.2.2 (5 + a0)), .int b0, .int c0, .int d0] res h := fun sz =>
  con_start [(0, .ref (K.2.2 (5 + a0))), (1, .int b0), (2, .int c0), (3, .int d0)] (by decide +kernel) rfl (Nat.le_of_ble_eq_true rfl) (fun p e s m args below meth c C0 hr hnm hsz => w_JStringLatin1_indexOf C0 hr N a0 b0 c0 d0 h hsa0 hE)
abbrev y_JString_indexOf1 : MethodName := ⟨"java/lang/String", "indexOf", "(II)I"⟩
abbrev rm_JString_indexOf1 : Room := { frames := 2, cells := 0, slots := 0, locals := 48 }
theorem cd_JString_indexOf1 : cwd y_JString_indexOf1 2 := by decide +kernel
theorem d_JString_indexOf1_0 : decode prog_16_method_80_code 0 = .ok (.aload_n 0, 1) := by decide +kernel
theorem d_JString_indexOf1_1 : decode prog_16_method_80_code 1 = .ok (.invokevirtual 492, 3) := by decide +kernel
theorem d_JString_indexOf1_4 : decode prog_16_method_80_code 4 = .ok (.ifCond .eq 19, 3) := by decide +kernel
theorem d_JString_indexOf1_7 : decode prog_16_method_80_code 7 = .ok (.aload_n 0, 1) := by decide +kernel
theorem d_JString_indexOf1_8 : decode prog_16_method_80_code 8 = .ok (.getfield 9, 3) := by decide +kernel
theorem d_JString_indexOf1_11 : decode prog_16_method_80_code 11 = .ok (.iload_n 1, 1) := by decide +kernel
theorem d_JString_indexOf1_12 : decode prog_16_method_80_code 12 = .ok (.iload_n 2, 1) := by decide +kernel
theorem d_JString_indexOf1_13 : decode prog_16_method_80_code 13 = .ok (.aload_n 0, 1) := by decide +kernel
theorem d_JString_indexOf1_14 : decode prog_16_method_80_code 14 = .ok (.invokevirtual 505, 3) := by decide +kernel
theorem d_JString_indexOf1_17 : decode prog_16_method_80_code 17 = .ok (.invokestatic 637, 3) := by decide +kernel
theorem d_JString_indexOf1_20 : decode prog_16_method_80_code 20 = .ok (.goto 16, 3) := by decide +kernel
theorem d_JString_indexOf1_23 : decode prog_16_method_80_code 23 = .ok (.aload_n 0, 1) := by decide +kernel
theorem d_JString_indexOf1_24 : decode prog_16_method_80_code 24 = .ok (.getfield 9, 3) := by decide +kernel
theorem d_JString_indexOf1_27 : decode prog_16_method_80_code 27 = .ok (.iload_n 1, 1) := by decide +kernel
theorem d_JString_indexOf1_28 : decode prog_16_method_80_code 28 = .ok (.iload_n 2, 1) := by decide +kernel
theorem d_JString_indexOf1_29 : decode prog_16_method_80_code 29 = .ok (.aload_n 0, 1) := by decide +kernel
theorem d_JString_indexOf1_30 : decode prog_16_method_80_code 30 = .ok (.invokevirtual 505, 3) := by decide +kernel
theorem d_JString_indexOf1_33 : decode prog_16_method_80_code 33 = .ok (.invokestatic 640, 3) := by decide +kernel
theorem d_JString_indexOf1_36 : decode prog_16_method_80_code 36 = .ok (.ireturn, 1) := by decide +kernel
theorem w_JString_indexOf1 {p : Program} {l : Launch} {e : Env} {s : State} {m : MethodId} {args : Array Value} {below : List Frame} {meth : Method} {c : Code} {K : KT} {A : Nat → Prop} (C0 : Cx p s m args meth c prog_16_method_80_code "java/lang/String" 3 K A) (hr : meth.sig.returnType = (Option.some Jvm.ClassFile.FieldType.int)) {ad : Nat → Nat} (N : Nat) (i0 : Nat) (a0 : Int32) (b0 : Int32) (h : Hp) (hsi0 : i0 < 3) {res : Int32} (hE : K_JString_indexOf1 N i0 a0 b0 = some res) : G p l e rm_JString_indexOf1 s m args below meth c K A WE 3 0 0 (QI s args below K A WE 0 0 ad res h) 0 [(0, .ref (K.2.2 (2 + i0))), (1, .int a0), (2, .int b0)] [] ad h := by
  unfold K_JString_indexOf1 at hE
  refine g_aload_n C0 0 d_JString_indexOf1_0 rfl rfl ?_
  have z1 : K_JString_isLatin1 i0 = some 1 := rfl
  refine g_calliP C0 nd_E [] rfl (sbW_self WE) (runVX C0 (m_JString_isLatin1 l K ad h i0 hsi0 z1) 0 rfl ⟨t_570, t_571, t_572, t_99, t_573⟩ cd_JString_isLatin1 (by decide) hsi0 (sbW_self WE) nd_E rfl rfl (Nat.le_of_ble_eq_true rfl) d_JString_indexOf1_1) ?_
  refine g_if_eq C0 (tgt := 23) d_JString_indexOf1_4 (by decide) (fun c_ => ?_) (fun c_ => ?_)
  · exact absurd c_ (by decide)
  · refine g_aload_n C0 0 d_JString_indexOf1_7 rfl rfl ?_
    refine g_value C0 hsi0 t_1542 d_JString_indexOf1_8 ?_
    refine g_iload_n C0 1 d_JString_indexOf1_11 rfl rfl ?_
    refine g_iload_n C0 2 d_JString_indexOf1_12 rfl rfl ?_
    refine g_aload_n C0 0 d_JString_indexOf1_13 rfl rfl ?_
    obtain ⟨v14, z14, hE⟩ := bd_some hE
    refine g_calliP C0 nd_E [] rfl (sbW_self WE) (runVX C0 (m_JString_length l K ad h i0 hsi0 z14) 0 rfl ⟨t_576, t_577, t_578, t_99, t_579⟩ cd_JString_length (by decide) hsi0 (sbW_self WE) nd_E rfl rfl (Nat.le_of_ble_eq_true rfl) d_JString_indexOf1_14) ?_
    obtain ⟨v17, z17, hE⟩ := bd_some hE
    refine g_calliP C0 nd_E [] rfl (sbW_self WE) (runS C0 (m_JStringLatin1_indexOf l K ad h N i0 a0 b0 v14 hsi0 z17) 4 ⟨t_584, t_585, t_100, t_586⟩ cd_JStringLatin1_indexOf (by decide) (sbW_self WE) nd_E rfl rfl (Nat.le_of_ble_eq_true rfl) d_JString_indexOf1_17) ?_
    refine g_goto C0 (tgt := 36) d_JString_indexOf1_20 (by decide) ?_
    obtain rfl := Option.some.inj hE
    exact g_iret C0 hr d_JString_indexOf1_36
theorem m_JString_indexOf1 (l : Launch) (K : KT) (ad : Nat → Nat) (h : Hp) (N : Nat) (i0 : Nat) (a0 : Int32) (b0 : Int32) (hsi0 : i0 < 3) {res : Int32} (hE : K_JString_indexOf1 N i0 a0 b0 = some res) : ConI l y_JString_indexOf1 prog_16_method_80_code 3 (Option.some Jvm.ClassFile.FieldType.int) rm_JString_indexOf1 K WE ad h [.ref (K.2.2 (2 + i0)), .int a0, .int b0] res h := fun sz =>
  con_start [(0, .ref (K.2.2 (2 + i0))), (1, .int a0), (2, .int b0)] (by decide +kernel) rfl (Nat.le_of_ble_eq_true rfl) (fun p e s m args below meth c C0 hr hnm hsz => w_JString_indexOf1 C0 hr N i0 a0 b0 h hsi0 hE)
abbrev y_JString_indexOf0 : MethodName := ⟨"java/lang/String", "indexOf", "(I)I"⟩
abbrev rm_JString_indexOf0 : Room := { frames := 3, cells := 0, slots := 0, locals := 70 }
theorem cd_JString_indexOf0 : cwd y_JString_indexOf0 1 := by decide +kernel
theorem d_JString_indexOf0_0 : decode prog_16_method_79_code 0 = .ok (.aload_n 0, 1) := by decide +kernel
theorem d_JString_indexOf0_1 : decode prog_16_method_79_code 1 = .ok (.iload_n 1, 1) := by decide +kernel
theorem d_JString_indexOf0_2 : decode prog_16_method_79_code 2 = .ok (.iconst 0, 1) := by decide +kernel
theorem d_JString_indexOf0_3 : decode prog_16_method_79_code 3 = .ok (.invokevirtual 633, 3) := by decide +kernel
theorem d_JString_indexOf0_6 : decode prog_16_method_79_code 6 = .ok (.ireturn, 1) := by decide +kernel
theorem w_JString_indexOf0 {p : Program} {l : Launch} {e : Env} {s : State} {m : MethodId} {args : Array Value} {below : List Frame} {meth : Method} {c : Code} {K : KT} {A : Nat → Prop} (C0 : Cx p s m args meth c prog_16_method_79_code "java/lang/String" 2 K A) (hr : meth.sig.returnType = (Option.some Jvm.ClassFile.FieldType.int)) {ad : Nat → Nat} (N : Nat) (i0 : Nat) (a0 : Int32) (h : Hp) (hsi0 : i0 < 3) {res : Int32} (hE : K_JString_indexOf0 N i0 a0 = some res) : G p l e rm_JString_indexOf0 s m args below meth c K A WE 2 0 0 (QI s args below K A WE 0 0 ad res h) 0 [(0, .ref (K.2.2 (2 + i0))), (1, .int a0)] [] ad h := by
  unfold K_JString_indexOf0 at hE
  refine g_aload_n C0 0 d_JString_indexOf0_0 rfl rfl ?_
  refine g_iload_n C0 1 d_JString_indexOf0_1 rfl rfl ?_
  refine g_iconst C0 (v := 0) d_JString_indexOf0_2 (by decide) ?_
  obtain ⟨v3, z3, hE⟩ := bd_some hE
  refine g_calliP C0 nd_E [] rfl (sbW_self WE) (runVX C0 (m_JString_indexOf1 l K ad h N i0 a0 0 hsi0 z3) 2 rfl ⟨t_566, t_567, t_568, t_99, t_569⟩ cd_JString_indexOf1 (by decide) hsi0 (sbW_self WE) nd_E rfl rfl (Nat.le_of_ble_eq_true rfl) d_JString_indexOf0_3) ?_
  obtain rfl := Option.some.inj hE
  exact g_iret C0 hr d_JString_indexOf0_6
theorem m_JString_indexOf0 (l : Launch) (K : KT) (ad : Nat → Nat) (h : Hp) (N : Nat) (i0 : Nat) (a0 : Int32) (hsi0 : i0 < 3) {res : Int32} (hE : K_JString_indexOf0 N i0 a0 = some res) : ConI l y_JString_indexOf0 prog_16_method_79_code 2 (Option.some Jvm.ClassFile.FieldType.int) rm_JString_indexOf0 K WE ad h [.ref (K.2.2 (2 + i0)), .int a0] res h := fun sz =>
  con_start [(0, .ref (K.2.2 (2 + i0))), (1, .int a0)] (by decide +kernel) rfl (Nat.le_of_ble_eq_true rfl) (fun p e s m args below meth c C0 hr hnm hsz => w_JString_indexOf0 C0 hr N i0 a0 h hsi0 hE)
