/-! walks, by program -/
abbrev y_Reader_readText : MethodName := ⟨"CanoeSides$Reader", "readText", "()V"⟩
abbrev rm_Reader_readText : Room := { frames := 7, cells := 0, slots := 0, locals := 159 }
theorem cd_Reader_readText : cwd y_Reader_readText 0 := by decide +kernel
theorem d_Reader_readText_0 : decode prog_8_method_2_code 0 = .ok (.aload_n 0, 1) := by decide +kernel
theorem d_Reader_readText_1 : decode prog_8_method_2_code 1 = .ok (.invokevirtual 47, 3) := by decide +kernel
theorem d_Reader_readText_4 : decode prog_8_method_2_code 4 = .ok (.iconst 0, 1) := by decide +kernel
theorem d_Reader_readText_5 : decode prog_8_method_2_code 5 = .ok (.istore_n 1, 1) := by decide +kernel
theorem d_Reader_readText_6 : decode prog_8_method_2_code 6 = .ok (.iload_n 1, 1) := by decide +kernel
theorem d_Reader_readText_7 : decode prog_8_method_2_code 7 = .ok (.sipush 250, 3) := by decide +kernel
theorem d_Reader_readText_10 : decode prog_8_method_2_code 10 = .ok (.if_icmp .gt 35, 3) := by decide +kernel
theorem d_Reader_readText_13 : decode prog_8_method_2_code 13 = .ok (.aload_n 0, 1) := by decide +kernel
theorem d_Reader_readText_14 : decode prog_8_method_2_code 14 = .ok (.getfield 28, 3) := by decide +kernel
theorem d_Reader_readText_17 : decode prog_8_method_2_code 17 = .ok (.ifCond .ne 28, 3) := by decide +kernel
theorem d_Reader_readText_20 : decode prog_8_method_2_code 20 = .ok (.aload_n 0, 1) := by decide +kernel
theorem d_Reader_readText_21 : decode prog_8_method_2_code 21 = .ok (.getfield 18, 3) := by decide +kernel
theorem d_Reader_readText_24 : decode prog_8_method_2_code 24 = .ok (.aload_n 0, 1) := by decide +kernel
theorem d_Reader_readText_25 : decode prog_8_method_2_code 25 = .ok (.getfield 44, 3) := by decide +kernel
theorem d_Reader_readText_28 : decode prog_8_method_2_code 28 = .ok (.if_icmp .ge 17, 3) := by decide +kernel
theorem d_Reader_readText_31 : decode prog_8_method_2_code 31 = .ok (.aload_n 0, 1) := by decide +kernel
theorem d_Reader_readText_32 : decode prog_8_method_2_code 32 = .ok (.invokevirtual 50, 3) := by decide +kernel
theorem d_Reader_readText_35 : decode prog_8_method_2_code 35 = .ok (.aload_n 0, 1) := by decide +kernel
theorem d_Reader_readText_36 : decode prog_8_method_2_code 36 = .ok (.invokevirtual 47, 3) := by decide +kernel
theorem d_Reader_readText_39 : decode prog_8_method_2_code 39 = .ok (.iinc 1 1, 3) := by decide +kernel
theorem d_Reader_readText_42 : decode prog_8_method_2_code 42 = .ok (.goto (-36), 3) := by decide +kernel
theorem d_Reader_readText_45 : decode prog_8_method_2_code 45 = .ok (.return_, 1) := by decide +kernel
theorem w_Reader_readText_L6 {p : Program} {l : Launch} {e : Env} {s : State} {m : MethodId} {args : Array Value} {below : List Frame} {meth : Method} {c : Code} {K : KT} {A : Nat → Prop} {Q : State → Prop} (C0 : Cx p s m args meth c prog_8_method_2_code "CanoeSides$Reader" 2 K A) (hr : meth.sig.returnType = (Option.none : Option Jvm.ClassFile.FieldType)) {ad : Nat → Nat} (N : Nat) (x1 : Int32) (h : Hp) {x_ : (Int32 × Hp) ⊕ (Hp)} (hE : K_Reader_readText_L6 N x1 h = some x_) (hk1 : ∀ z_, x_ = .inl z_ → G p l e rm_Reader_readText s m args below meth c K A WReader 2 0 0 Q 6 [(0, .ref (ad 70)), (1, .int z_.1)] [] ad z_.2) (hk3 : ∀ z_, x_ = .inr z_ → G p l e rm_Reader_readText s m args below meth c K A WReader 2 0 0 Q 45 [] [] ad z_) : G p l e rm_Reader_readText s m args below meth c K A WReader 2 0 0 Q 6 [(0, .ref (ad 70)), (1, .int x1)] [] ad h := by
  unfold K_Reader_readText_L6 at hE
  refine g_iload_n C0 1 d_Reader_readText_6 rfl rfl ?_
  refine g_sipush C0 (v := 250) d_Reader_readText_7 (by decide) ?_
  have hB := ite_some hE
  refine g_icmp_gt C0 (tgt := 45) d_Reader_readText_10 (by decide) (fun c_ => ?_) (fun c_ => ?_)
  · replace hE := hB.1 c_
    refine g_sub [] (L' := []) rfl ?_
    exact hk3 _ (Option.some.inj hE).symm
  · replace hE := hB.2 c_
    refine g_aload_n C0 0 d_Reader_readText_13 rfl rfl ?_
    refine g_geti C0 CK_6 6 (by decide) t_524 0 rfl rfl d_Reader_readText_14 ?_
    have hB := ite_some hE
    refine g_if_ne C0 (tgt := 45) d_Reader_readText_17 (by decide) (fun c_ => ?_) (fun c_ => ?_)
    · replace hE := hB.2 c_
      refine g_sub [] (L' := []) rfl ?_
      exact hk3 _ (Option.some.inj hE).symm
    · replace hE := hB.1 c_
      refine g_aload_n C0 0 d_Reader_readText_20 rfl rfl ?_
      refine g_geti C0 CK_6 3 (by decide) t_521 0 rfl rfl d_Reader_readText_21 ?_
      refine g_aload_n C0 0 d_Reader_readText_24 rfl rfl ?_
      refine g_geti C0 CK_6 1 (by decide) t_518 0 rfl rfl d_Reader_readText_25 ?_
      have hB := ite_some hE
      refine g_icmp_ge C0 (tgt := 45) d_Reader_readText_28 (by decide) (fun c_ => ?_) (fun c_ => ?_)
      · replace hE := hB.1 c_
        refine g_sub [] (L' := []) rfl ?_
        exact hk3 _ (Option.some.inj hE).symm
      · replace hE := hB.2 c_
        refine g_aload_n C0 0 d_Reader_readText_31 rfl rfl ?_
        obtain ⟨h32, z32, hE⟩ := bd_some hE
        refine g_callv C0 nd_Reader [70, 2, 10, 11, 12] rfl (sbW_self WReader) (runV C0 (m_Reader_readClause l K ad h N z32) 0 rfl ⟨t_553, t_555, t_2, t_98, t_556⟩ cd_Reader_readClause (by decide) 0 rfl rfl (sbW_self WReader) nd_Reader rfl rfl (Nat.le_of_ble_eq_true rfl) d_Reader_readText_32) ?_
        refine g_mx [70, 2, 10, 11, 12] rfl ?_
        refine g_aload_n C0 0 d_Reader_readText_35 rfl rfl ?_
        obtain ⟨h36, z36, hE⟩ := bd_some hE
        refine g_callv C0 nd_Reader [70, 2, 10, 11, 12] rfl (sbW_self WReader) (runV C0 (m_Reader_skipBlanks l K ad h32 N z36) 0 rfl ⟨t_549, t_551, t_1, t_98, t_552⟩ cd_Reader_skipBlanks (by decide) 0 rfl rfl (sbW_self WReader) nd_Reader rfl rfl (Nat.le_of_ble_eq_true rfl) d_Reader_readText_36) ?_
        refine g_mx [70, 2, 10, 11, 12] rfl ?_
        obtain ⟨v39, e39, hE⟩ := nm_some hE
        refine g_iinc C0 1 [(1, .int v39), (0, .ref (ad 70))] d_Reader_readText_39 rfl (by rw [e39]; rfl) (by decide) rfl ?_
        refine g_goto C0 (tgt := 6) d_Reader_readText_42 (by decide) ?_
        refine g_sub [1, 0] (L' := [(0, .ref (ad 70)), (1, .int v39)]) rfl ?_
        exact hk1 _ (Option.some.inj hE).symm
theorem w_Reader_readText {p : Program} {l : Launch} {e : Env} {s : State} {m : MethodId} {args : Array Value} {below : List Frame} {meth : Method} {c : Code} {K : KT} {A : Nat → Prop} (C0 : Cx p s m args meth c prog_8_method_2_code "CanoeSides$Reader" 2 K A) (hr : meth.sig.returnType = (Option.none : Option Jvm.ClassFile.FieldType)) {ad : Nat → Nat} (N : Nat) (h : Hp) {res : Hp} (hE : K_Reader_readText N h = some res) : G p l e rm_Reader_readText s m args below meth c K A WReader 2 0 0 (QV s args below K A WReader 0 0 ad res) 0 [(0, .ref (ad 70))] [] ad h := by
  unfold K_Reader_readText at hE
  refine g_aload_n C0 0 d_Reader_readText_0 rfl rfl ?_
  obtain ⟨h1, z1, hE⟩ := bd_some hE
  refine g_callv C0 nd_Reader [70, 2, 10, 11, 12] rfl (sbW_self WReader) (runV C0 (m_Reader_skipBlanks l K ad h N z1) 0 rfl ⟨t_549, t_551, t_1, t_98, t_552⟩ cd_Reader_skipBlanks (by decide) 0 rfl rfl (sbW_self WReader) nd_Reader rfl rfl (Nat.le_of_ble_eq_true rfl) d_Reader_readText_1) ?_
  refine g_mx [70, 2, 10, 11, 12] rfl ?_
  refine g_iconst C0 (v := 0) d_Reader_readText_4 (by decide) ?_
  refine g_istore_n C0 [(1, .int 0), (0, .ref (ad 70))] d_Reader_readText_5 rfl (by decide) rfl ?_
  refine g_sub [1, 0] (L' := [(0, .ref (ad 70)), (1, .int 0)]) rfl ?_
  obtain ⟨t6, z6, hE⟩ := bd_some hE
  refine loopG (fun z_ : Int32 × Hp => K_Reader_readText_L6 N z_.1 z_.2) (fun z_ : Int32 × Hp => G p l e rm_Reader_readText s m args below meth c K A WReader 2 0 0 _ 6 [(0, .ref (ad 70)), (1, .int z_.1)] [] ad z_.2) (fun z_ : Hp => G p l e rm_Reader_readText s m args below meth c K A WReader 2 0 0 _ 45 [] [] ad z_) (fun z_ x_ hz k1 k2 => w_Reader_readText_L6 C0 hr N z_.1 z_.2 hz k1 k2) _ _ _ z6 ?_
  try dsimp only
  obtain rfl := Option.some.inj hE
  exact g_vret C0 hr d_Reader_readText_45
theorem m_Reader_readText (l : Launch) (K : KT) (ad : Nat → Nat) (h : Hp) (N : Nat) {res : Hp} (hE : K_Reader_readText N h = some res) : ConV l y_Reader_readText prog_8_method_2_code 2 (Option.none : Option Jvm.ClassFile.FieldType) rm_Reader_readText K WReader ad h [.ref (ad 70)] res := fun sz =>
  con_start [(0, .ref (ad 70))] (by decide +kernel) rfl (Nat.le_of_ble_eq_true rfl) (fun p e s m args below meth c C0 hr hnm hsz => w_Reader_readText C0 hr N h hE)
abbrev y_River_has : MethodName := ⟨"CanoeSides$River", "has", "(II)Z"⟩
abbrev rm_River_has : Room := { frames := 0, cells := 0, slots := 0, locals := 0 }
theorem cd_River_has : cwd y_River_has 2 := by decide +kernel
theorem d_River_has_0 : decode prog_9_method_2_code 0 = .ok (.iload_n 1, 1) := by decide +kernel
theorem d_River_has_1 : decode prog_9_method_2_code 1 = .ok (.ifCond .lt 27, 3) := by decide +kernel
theorem d_River_has_4 : decode prog_9_method_2_code 4 = .ok (.iload_n 1, 1) := by decide +kernel
theorem d_River_has_5 : decode prog_9_method_2_code 5 = .ok (.aload_n 0, 1) := by decide +kernel
theorem d_River_has_6 : decode prog_9_method_2_code 6 = .ok (.getfield 9, 3) := by decide +kernel
theorem d_River_has_9 : decode prog_9_method_2_code 9 = .ok (.if_icmp .ge 19, 3) := by decide +kernel
theorem d_River_has_12 : decode prog_9_method_2_code 12 = .ok (.iload_n 2, 1) := by decide +kernel
theorem d_River_has_13 : decode prog_9_method_2_code 13 = .ok (.ifCond .lt 15, 3) := by decide +kernel
theorem d_River_has_16 : decode prog_9_method_2_code 16 = .ok (.iload_n 2, 1) := by decide +kernel
theorem d_River_has_17 : decode prog_9_method_2_code 17 = .ok (.aload_n 0, 1) := by decide +kernel
theorem d_River_has_18 : decode prog_9_method_2_code 18 = .ok (.getfield 15, 3) := by decide +kernel
theorem d_River_has_21 : decode prog_9_method_2_code 21 = .ok (.if_icmp .ge 7, 3) := by decide +kernel
theorem d_River_has_24 : decode prog_9_method_2_code 24 = .ok (.iconst 1, 1) := by decide +kernel
theorem d_River_has_25 : decode prog_9_method_2_code 25 = .ok (.goto 4, 3) := by decide +kernel
theorem d_River_has_28 : decode prog_9_method_2_code 28 = .ok (.iconst 0, 1) := by decide +kernel
theorem d_River_has_29 : decode prog_9_method_2_code 29 = .ok (.ireturn, 1) := by decide +kernel
theorem w_River_has {p : Program} {l : Launch} {e : Env} {s : State} {m : MethodId} {args : Array Value} {below : List Frame} {meth : Method} {c : Code} {K : KT} {A : Nat → Prop} (C0 : Cx p s m args meth c prog_9_method_2_code "CanoeSides$River" 3 K A) (hr : meth.sig.returnType = (Option.some Jvm.ClassFile.FieldType.boolean)) {ad : Nat → Nat} (a0 : Int32) (b0 : Int32) (h : Hp) {res : Int32} (hE : K_River_has a0 b0 h = some res) : G p l e rm_River_has s m args below meth c K A WRiver 3 0 0 (QI s args below K A WRiver 0 0 ad res h) 0 [(0, .ref (ad 10)), (1, .int a0), (2, .int b0)] [] ad h := by
  unfold K_River_has at hE
  refine g_iload_n C0 1 d_River_has_0 rfl rfl ?_
  have hB := ite_some hE
  refine g_if_lt C0 (tgt := 28) d_River_has_1 (by decide) (fun c_ => ?_) (fun c_ => ?_)
  · replace hE := hB.1 c_
    refine g_iconst C0 (v := 0) d_River_has_28 (by decide) ?_
    obtain rfl := Option.some.inj hE
    exact g_zret C0 hr nz0 d_River_has_29
  · replace hE := hB.2 c_
    refine g_iload_n C0 1 d_River_has_4 rfl rfl ?_
    refine g_aload_n C0 0 d_River_has_5 rfl rfl ?_
    refine g_geti C0 CK_7 0 (by decide) t_121 0 rfl rfl d_River_has_6 ?_
    have hB := ite_some hE
    refine g_icmp_ge C0 (tgt := 28) d_River_has_9 (by decide) (fun c_ => ?_) (fun c_ => ?_)
    · replace hE := hB.1 c_
      refine g_iconst C0 (v := 0) d_River_has_28 (by decide) ?_
      obtain rfl := Option.some.inj hE
      exact g_zret C0 hr nz0 d_River_has_29
    · replace hE := hB.2 c_
      refine g_iload_n C0 2 d_River_has_12 rfl rfl ?_
      have hB := ite_some hE
      refine g_if_lt C0 (tgt := 28) d_River_has_13 (by decide) (fun c_ => ?_) (fun c_ => ?_)
      · replace hE := hB.1 c_
        refine g_iconst C0 (v := 0) d_River_has_28 (by decide) ?_
        obtain rfl := Option.some.inj hE
        exact g_zret C0 hr nz0 d_River_has_29
      · replace hE := hB.2 c_
        refine g_iload_n C0 2 d_River_has_16 rfl rfl ?_
        refine g_aload_n C0 0 d_River_has_17 rfl rfl ?_
        refine g_geti C0 CK_7 1 (by decide) t_124 0 rfl rfl d_River_has_18 ?_
        have hB := ite_some hE
        refine g_icmp_ge C0 (tgt := 28) d_River_has_21 (by decide) (fun c_ => ?_) (fun c_ => ?_)
        · replace hE := hB.1 c_
          refine g_iconst C0 (v := 0) d_River_has_28 (by decide) ?_
          obtain rfl := Option.some.inj hE
          exact g_zret C0 hr nz0 d_River_has_29
        · replace hE := hB.2 c_
          refine g_iconst C0 (v := 1) d_River_has_24 (by decide) ?_
          refine g_goto C0 (tgt := 29) d_River_has_25 (by decide) ?_
          obtain rfl := Option.some.inj hE
          exact g_zret C0 hr nz1 d_River_has_29
theorem m_River_has (l : Launch) (K : KT) (ad : Nat → Nat) (h : Hp) (a0 : Int32) (b0 : Int32) {res : Int32} (hE : K_River_has a0 b0 h = some res) : ConI l y_River_has prog_9_method_2_code 3 (Option.some Jvm.ClassFile.FieldType.boolean) rm_River_has K WRiver ad h [.ref (ad 10), .int a0, .int b0] res h := fun sz =>
  con_start [(0, .ref (ad 10)), (1, .int a0), (2, .int b0)] (by decide +kernel) rfl (Nat.le_of_ble_eq_true rfl) (fun p e s m args below meth c C0 hr hnm hsz => w_River_has C0 hr a0 b0 h hE)
abbrev y_River_habitOf : MethodName := ⟨"CanoeSides$River", "habitOf", "(II)I"⟩
abbrev rm_River_habitOf : Room := { frames := 0, cells := 0, slots := 0, locals := 0 }
theorem cd_River_habitOf : cwd y_River_habitOf 2 := by decide +kernel
theorem d_River_habitOf_0 : decode prog_9_method_5_code 0 = .ok (.iconst 4, 1) := by decide +kernel
theorem d_River_habitOf_1 : decode prog_9_method_5_code 1 = .ok (.iload_n 1, 1) := by decide +kernel
theorem d_River_habitOf_2 : decode prog_9_method_5_code 2 = .ok (.imul, 1) := by decide +kernel
theorem d_River_habitOf_3 : decode prog_9_method_5_code 3 = .ok (.iload_n 2, 1) := by decide +kernel
theorem d_River_habitOf_4 : decode prog_9_method_5_code 4 = .ok (.iadd, 1) := by decide +kernel
theorem d_River_habitOf_5 : decode prog_9_method_5_code 5 = .ok (.istore_n 3, 1) := by decide +kernel
theorem d_River_habitOf_6 : decode prog_9_method_5_code 6 = .ok (.iload_n 3, 1) := by decide +kernel
theorem d_River_habitOf_7 : decode prog_9_method_5_code 7 = .ok (.ifCond .lt 21, 3) := by decide +kernel
theorem d_River_habitOf_10 : decode prog_9_method_5_code 10 = .ok (.iload_n 3, 1) := by decide +kernel
theorem d_River_habitOf_11 : decode prog_9_method_5_code 11 = .ok (.aload_n 0, 1) := by decide +kernel
theorem d_River_habitOf_12 : decode prog_9_method_5_code 12 = .ok (.getfield 49, 3) := by decide +kernel
theorem d_River_habitOf_15 : decode prog_9_method_5_code 15 = .ok (.arraylength, 1) := by decide +kernel
theorem d_River_habitOf_16 : decode prog_9_method_5_code 16 = .ok (.if_icmp .ge 12, 3) := by decide +kernel
theorem d_River_habitOf_19 : decode prog_9_method_5_code 19 = .ok (.aload_n 0, 1) := by decide +kernel
theorem d_River_habitOf_20 : decode prog_9_method_5_code 20 = .ok (.getfield 49, 3) := by decide +kernel
theorem d_River_habitOf_23 : decode prog_9_method_5_code 23 = .ok (.iload_n 3, 1) := by decide +kernel
theorem d_River_habitOf_24 : decode prog_9_method_5_code 24 = .ok (.iaload, 1) := by decide +kernel
theorem d_River_habitOf_25 : decode prog_9_method_5_code 25 = .ok (.goto 4, 3) := by decide +kernel
theorem d_River_habitOf_28 : decode prog_9_method_5_code 28 = .ok (.iconst 3, 1) := by decide +kernel
theorem d_River_habitOf_29 : decode prog_9_method_5_code 29 = .ok (.ireturn, 1) := by decide +kernel
theorem w_River_habitOf {p : Program} {l : Launch} {e : Env} {s : State} {m : MethodId} {args : Array Value} {below : List Frame} {meth : Method} {c : Code} {K : KT} {A : Nat → Prop} (C0 : Cx p s m args meth c prog_9_method_5_code "CanoeSides$River" 4 K A) (hr : meth.sig.returnType = (Option.some Jvm.ClassFile.FieldType.int)) {ad : Nat → Nat} (a0 : Int32) (b0 : Int32) (h : Hp) {res : Int32} (hE : K_River_habitOf a0 b0 h = some res) : G p l e rm_River_habitOf s m args below meth c K A WRiver 4 0 0 (QI s args below K A WRiver 0 0 ad res h) 0 [(0, .ref (ad 10)), (1, .int a0), (2, .int b0)] [] ad h := by
  unfold K_River_habitOf at hE
  refine g_iconst C0 (v := 4) d_River_habitOf_0 (by decide) ?_
  refine g_iload_n C0 1 d_River_habitOf_1 rfl rfl ?_
  refine g_imul C0 d_River_habitOf_2 ?_
  refine g_iload_n C0 2 d_River_habitOf_3 rfl rfl ?_
  refine g_iadd C0 d_River_habitOf_4 ?_
  obtain ⟨v5, e5, hE⟩ := nm_some hE
  refine g_top e5 ?_
  refine g_istore_n C0 [(3, .int v5), (0, .ref (ad 10)), (1, .int a0), (2, .int b0)] d_River_habitOf_5 rfl (by decide) rfl ?_
  refine g_iload_n C0 0 d_River_habitOf_6 rfl rfl ?_
  have hB := ite_some hE
  refine g_if_lt C0 (tgt := 28) d_River_habitOf_7 (by decide) (fun c_ => ?_) (fun c_ => ?_)
  · replace hE := hB.1 c_
    refine g_iconst C0 (v := 3) d_River_habitOf_28 (by decide) ?_
    obtain rfl := Option.some.inj hE
    exact g_iret C0 hr d_River_habitOf_29
  · replace hE := hB.2 c_
    refine g_iload_n C0 0 d_River_habitOf_10 rfl rfl ?_
    refine g_aload_n C0 1 d_River_habitOf_11 rfl rfl ?_
    refine g_getr C0 CK_7 12 (by decide) t_164 0 rfl rfl d_River_habitOf_12 ?_
    refine g_alen C0 2 rfl rfl (v := 8) (by decide) d_River_habitOf_15 ?_
    have hB := ite_some hE
    refine g_icmp_ge C0 (tgt := 28) d_River_habitOf_16 (by decide) (fun c_ => ?_) (fun c_ => ?_)
    · replace hE := hB.1 c_
      refine g_iconst C0 (v := 3) d_River_habitOf_28 (by decide) ?_
      obtain rfl := Option.some.inj hE
      exact g_iret C0 hr d_River_habitOf_29
    · replace hE := hB.2 c_
      refine g_aload_n C0 1 d_River_habitOf_19 rfl rfl ?_
      refine g_getr C0 CK_7 12 (by decide) t_164 0 rfl rfl d_River_habitOf_20 ?_
      refine g_iload_n C0 0 d_River_habitOf_23 rfl rfl ?_
      obtain ⟨q24, v24, e24, hE⟩ := gA_some hE
      refine g_iald C0 2 rfl q24 d_River_habitOf_24 ?_
      refine g_top e24 ?_
      refine g_goto C0 (tgt := 29) d_River_habitOf_25 (by decide) ?_
      obtain rfl := Option.some.inj hE
      exact g_iret C0 hr d_River_habitOf_29
theorem m_River_habitOf (l : Launch) (K : KT) (ad : Nat → Nat) (h : Hp) (a0 : Int32) (b0 : Int32) {res : Int32} (hE : K_River_habitOf a0 b0 h = some res) : ConI l y_River_habitOf prog_9_method_5_code 4 (Option.some Jvm.ClassFile.FieldType.int) rm_River_habitOf K WRiver ad h [.ref (ad 10), .int a0, .int b0] res h := fun sz =>
  con_start [(0, .ref (ad 10)), (1, .int a0), (2, .int b0)] (by decide +kernel) rfl (Nat.le_of_ble_eq_true rfl) (fun p e s m args below meth c C0 hr hnm hsz => w_River_habitOf C0 hr a0 b0 h hE)
abbrev y_C_eastOf : MethodName := ⟨"CanoeSides", "eastOf", "(I)I"⟩
abbrev rm_C_eastOf : Room := { frames := 0, cells := 0, slots := 0, locals := 0 }
theorem cd_C_eastOf : cwd y_C_eastOf 1 := by decide +kernel
theorem d_C_eastOf_0 : decode prog_1_method_37_code 0 = .ok (.getstatic 286, 3) := by decide +kernel
theorem d_C_eastOf_3 : decode prog_1_method_37_code 3 = .ok (.iload_n 0, 1) := by decide +kernel
theorem d_C_eastOf_4 : decode prog_1_method_37_code 4 = .ok (.bipush 7, 2) := by decide +kernel
theorem d_C_eastOf_6 : decode prog_1_method_37_code 6 = .ok (.iand, 1) := by decide +kernel
theorem d_C_eastOf_7 : decode prog_1_method_37_code 7 = .ok (.iaload, 1) := by decide +kernel
theorem d_C_eastOf_8 : decode prog_1_method_37_code 8 = .ok (.ireturn, 1) := by decide +kernel
theorem w_C_eastOf {p : Program} {l : Launch} {e : Env} {s : State} {m : MethodId} {args : Array Value} {below : List Frame} {meth : Method} {c : Code} {K : KT} {A : Nat → Prop} (C0 : Cx p s m args meth c prog_1_method_37_code "CanoeSides" 1 K A) (hr : meth.sig.returnType = (Option.some Jvm.ClassFile.FieldType.int)) {ad : Nat → Nat} (a0 : Int32) (h : Hp) {res : Int32} (hE : K_C_eastOf a0 = some res) : G p l e rm_C_eastOf s m args below meth c K A WE 1 0 0 (QI s args below K A WE 0 0 ad res h) 0 [(0, .int a0)] [] ad h := by
  unfold K_C_eastOf at hE
  refine g_gets_east C0 t_400 d_C_eastOf_0 ?_
  refine g_iload_n C0 0 d_C_eastOf_3 rfl rfl ?_
  refine g_bipush C0 (v := 7) d_C_eastOf_4 (by decide) ?_
  refine g_iand C0 d_C_eastOf_6 ?_
  obtain ⟨q7, v7, e7, hE⟩ := gA_some hE
  refine g_iald_east C0 q7 d_C_eastOf_7 ?_
  refine g_top e7 ?_
  obtain rfl := Option.some.inj hE
  exact g_iret C0 hr d_C_eastOf_8
theorem m_C_eastOf (l : Launch) (K : KT) (ad : Nat → Nat) (h : Hp) (a0 : Int32) {res : Int32} (hE : K_C_eastOf a0 = some res) : ConI l y_C_eastOf prog_1_method_37_code 1 (Option.some Jvm.ClassFile.FieldType.int) rm_C_eastOf K WE ad h [.int a0] res h := fun sz =>
  con_start [(0, .int a0)] (by decide +kernel) rfl (Nat.le_of_ble_eq_true rfl) (fun p e s m args below meth c C0 hr hnm hsz => w_C_eastOf C0 hr a0 h hE)
abbrev y_C_southOf : MethodName := ⟨"CanoeSides", "southOf", "(I)I"⟩
abbrev rm_C_southOf : Room := { frames := 0, cells := 0, slots := 0, locals := 0 }
theorem cd_C_southOf : cwd y_C_southOf 1 := by decide +kernel
theorem d_C_southOf_0 : decode prog_1_method_38_code 0 = .ok (.getstatic 289, 3) := by decide +kernel
theorem d_C_southOf_3 : decode prog_1_method_38_code 3 = .ok (.iload_n 0, 1) := by decide +kernel
theorem d_C_southOf_4 : decode prog_1_method_38_code 4 = .ok (.bipush 7, 2) := by decide +kernel
theorem d_C_southOf_6 : decode prog_1_method_38_code 6 = .ok (.iand, 1) := by decide +kernel
theorem d_C_southOf_7 : decode prog_1_method_38_code 7 = .ok (.iaload, 1) := by decide +kernel
theorem d_C_southOf_8 : decode prog_1_method_38_code 8 = .ok (.ireturn, 1) := by decide +kernel
theorem w_C_southOf {p : Program} {l : Launch} {e : Env} {s : State} {m : MethodId} {args : Array Value} {below : List Frame} {meth : Method} {c : Code} {K : KT} {A : Nat → Prop} (C0 : Cx p s m args meth c prog_1_method_38_code "CanoeSides" 1 K A) (hr : meth.sig.returnType = (Option.some Jvm.ClassFile.FieldType.int)) {ad : Nat → Nat} (a0 : Int32) (h : Hp) {res : Int32} (hE : K_C_southOf a0 = some res) : G p l e rm_C_southOf s m args below meth c K A WE 1 0 0 (QI s args below K A WE 0 0 ad res h) 0 [(0, .int a0)] [] ad h := by
  unfold K_C_southOf at hE
  refine g_gets_south C0 t_405 d_C_southOf_0 ?_
  refine g_iload_n C0 0 d_C_southOf_3 rfl rfl ?_
  refine g_bipush C0 (v := 7) d_C_southOf_4 (by decide) ?_
  refine g_iand C0 d_C_southOf_6 ?_
  obtain ⟨q7, v7, e7, hE⟩ := gA_some hE
  refine g_iald_south C0 q7 d_C_southOf_7 ?_
  refine g_top e7 ?_
  obtain rfl := Option.some.inj hE
  exact g_iret C0 hr d_C_southOf_8
theorem m_C_southOf (l : Launch) (K : KT) (ad : Nat → Nat) (h : Hp) (a0 : Int32) {res : Int32} (hE : K_C_southOf a0 = some res) : ConI l y_C_southOf prog_1_method_38_code 1 (Option.some Jvm.ClassFile.FieldType.int) rm_C_southOf K WE ad h [.int a0] res h := fun sz =>
  con_start [(0, .int a0)] (by decide +kernel) rfl (Nat.le_of_ble_eq_true rfl) (fun p e s m args below meth c C0 hr hnm hsz => w_C_southOf C0 hr a0 h hE)
abbrev y_River_neighbour : MethodName := ⟨"CanoeSides$River", "neighbour", "(II)I"⟩
abbrev rm_River_neighbour : Room := { frames := 1, cells := 0, slots := 0, locals := 21 }
theorem cd_River_neighbour : cwd y_River_neighbour 2 := by decide +kernel
theorem d_River_neighbour_0 : decode prog_9_method_8_code 0 = .ok (.iload_n 1, 1) := by decide +kernel
theorem d_River_neighbour_1 : decode prog_9_method_8_code 1 = .ok (.bipush 8, 2) := by decide +kernel
theorem d_River_neighbour_3 : decode prog_9_method_8_code 3 = .ok (.irem, 1) := by decide +kernel
theorem d_River_neighbour_4 : decode prog_9_method_8_code 4 = .ok (.iload_n 2, 1) := by decide +kernel
theorem d_River_neighbour_5 : decode prog_9_method_8_code 5 = .ok (.invokestatic 58, 3) := by decide +kernel
theorem d_River_neighbour_8 : decode prog_9_method_8_code 8 = .ok (.iadd, 1) := by decide +kernel
theorem d_River_neighbour_9 : decode prog_9_method_8_code 9 = .ok (.istore_n 3, 1) := by decide +kernel
theorem d_River_neighbour_10 : decode prog_9_method_8_code 10 = .ok (.iload_n 1, 1) := by decide +kernel
theorem d_River_neighbour_11 : decode prog_9_method_8_code 11 = .ok (.bipush 8, 2) := by decide +kernel
theorem d_River_neighbour_13 : decode prog_9_method_8_code 13 = .ok (.idiv, 1) := by decide +kernel
theorem d_River_neighbour_14 : decode prog_9_method_8_code 14 = .ok (.iload_n 2, 1) := by decide +kernel
theorem d_River_neighbour_15 : decode prog_9_method_8_code 15 = .ok (.invokestatic 62, 3) := by decide +kernel
theorem d_River_neighbour_18 : decode prog_9_method_8_code 18 = .ok (.iadd, 1) := by decide +kernel
theorem d_River_neighbour_19 : decode prog_9_method_8_code 19 = .ok (.istore 4, 2) := by decide +kernel
theorem d_River_neighbour_21 : decode prog_9_method_8_code 21 = .ok (.iload_n 3, 1) := by decide +kernel
theorem d_River_neighbour_22 : decode prog_9_method_8_code 22 = .ok (.ifCond .lt 21, 3) := by decide +kernel
theorem d_River_neighbour_25 : decode prog_9_method_8_code 25 = .ok (.iload_n 3, 1) := by decide +kernel
theorem d_River_neighbour_26 : decode prog_9_method_8_code 26 = .ok (.bipush 8, 2) := by decide +kernel
theorem d_River_neighbour_28 : decode prog_9_method_8_code 28 = .ok (.if_icmp .ge 15, 3) := by decide +kernel
theorem d_River_neighbour_31 : decode prog_9_method_8_code 31 = .ok (.iload 4, 2) := by decide +kernel
theorem d_River_neighbour_33 : decode prog_9_method_8_code 33 = .ok (.ifCond .lt 10, 3) := by decide +kernel
theorem d_River_neighbour_36 : decode prog_9_method_8_code 36 = .ok (.iload 4, 2) := by decide +kernel
theorem d_River_neighbour_38 : decode prog_9_method_8_code 38 = .ok (.bipush 6, 2) := by decide +kernel
theorem d_River_neighbour_40 : decode prog_9_method_8_code 40 = .ok (.if_icmp .lt 5, 3) := by decide +kernel
theorem d_River_neighbour_43 : decode prog_9_method_8_code 43 = .ok (.iload_n 1, 1) := by decide +kernel
theorem d_River_neighbour_44 : decode prog_9_method_8_code 44 = .ok (.ireturn, 1) := by decide +kernel
theorem d_River_neighbour_45 : decode prog_9_method_8_code 45 = .ok (.iload 4, 2) := by decide +kernel
theorem d_River_neighbour_47 : decode prog_9_method_8_code 47 = .ok (.bipush 8, 2) := by decide +kernel
theorem d_River_neighbour_49 : decode prog_9_method_8_code 49 = .ok (.imul, 1) := by decide +kernel
theorem d_River_neighbour_50 : decode prog_9_method_8_code 50 = .ok (.iload_n 3, 1) := by decide +kernel
theorem d_River_neighbour_51 : decode prog_9_method_8_code 51 = .ok (.iadd, 1) := by decide +kernel
theorem d_River_neighbour_52 : decode prog_9_method_8_code 52 = .ok (.istore 5, 2) := by decide +kernel
theorem d_River_neighbour_54 : decode prog_9_method_8_code 54 = .ok (.aload_n 0, 1) := by decide +kernel
theorem d_River_neighbour_55 : decode prog_9_method_8_code 55 = .ok (.iload 5, 2) := by decide +kernel
theorem d_River_neighbour_57 : decode prog_9_method_8_code 57 = .ok (.invokevirtual 65, 3) := by decide +kernel
theorem d_River_neighbour_60 : decode prog_9_method_8_code 60 = .ok (.iconst 1, 1) := by decide +kernel
theorem d_River_neighbour_61 : decode prog_9_method_8_code 61 = .ok (.if_icmp .ne 7, 3) := by decide +kernel
theorem d_River_neighbour_64 : decode prog_9_method_8_code 64 = .ok (.iload_n 1, 1) := by decide +kernel
theorem d_River_neighbour_65 : decode prog_9_method_8_code 65 = .ok (.goto 5, 3) := by decide +kernel
theorem d_River_neighbour_68 : decode prog_9_method_8_code 68 = .ok (.iload 5, 2) := by decide +kernel
theorem d_River_neighbour_70 : decode prog_9_method_8_code 70 = .ok (.ireturn, 1) := by decide +kernel
theorem w_River_neighbour {p : Program} {l : Launch} {e : Env} {s : State} {m : MethodId} {args : Array Value} {below : List Frame} {meth : Method} {c : Code} {K : KT} {A : Nat → Prop} (C0 : Cx p s m args meth c prog_9_method_8_code "CanoeSides$River" 6 K A) (hr : meth.sig.returnType = (Option.some Jvm.ClassFile.FieldType.int)) {ad : Nat → Nat} (a0 : Int32) (b0 : Int32) (h : Hp) {res : Int32} (hE : K_River_neighbour a0 b0 h = some res) : G p l e rm_River_neighbour s m args below meth c K A WRiver 6 0 0 (QI s args below K A WRiver 0 0 ad res h) 0 [(0, .ref (ad 10)), (1, .int a0), (2, .int b0)] [] ad h := by
  unfold K_River_neighbour at hE
  refine g_iload_n C0 1 d_River_neighbour_0 rfl rfl ?_
  refine g_bipush C0 (v := 8) d_River_neighbour_1 (by decide) ?_
  refine g_irem C0 d_River_neighbour_3 (by decide) ?_
  refine g_iload_n C0 2 d_River_neighbour_4 rfl rfl ?_
  obtain ⟨v5, z5, hE⟩ := bd_some hE
  refine g_calliP C0 nd_River [] rfl (sb_E_River) (runSN C0 (m_C_eastOf l K ad h b0 z5) 1 ⟨t_397, t_398, t_85, t_399⟩ cd_C_eastOf (by decide) (sb_E_River) nd_E rfl rfl (Nat.le_of_ble_eq_true rfl) d_River_neighbour_5) ?_
  refine g_iadd C0 d_River_neighbour_8 ?_
  obtain ⟨v9, e9, hE⟩ := nm_some hE
  refine g_top e9 ?_
  refine g_istore_n C0 [(3, .int v9), (0, .ref (ad 10)), (1, .int a0), (2, .int b0)] d_River_neighbour_9 rfl (by decide) rfl ?_
  refine g_iload_n C0 2 d_River_neighbour_10 rfl rfl ?_
  refine g_bipush C0 (v := 8) d_River_neighbour_11 (by decide) ?_
  refine g_idiv C0 d_River_neighbour_13 (by decide) ?_
  refine g_iload_n C0 3 d_River_neighbour_14 rfl rfl ?_
  obtain ⟨v15, z15, hE⟩ := bd_some hE
  refine g_calliP C0 nd_River [] rfl (sb_E_River) (runSN C0 (m_C_southOf l K ad h b0 z15) 1 ⟨t_402, t_403, t_85, t_404⟩ cd_C_southOf (by decide) (sb_E_River) nd_E rfl rfl (Nat.le_of_ble_eq_true rfl) d_River_neighbour_15) ?_
  refine g_iadd C0 d_River_neighbour_18 ?_
  obtain ⟨v19, e19, hE⟩ := nm_some hE
  refine g_top e19 ?_
  refine g_istore C0 [(4, .int v19), (3, .int v9), (0, .ref (ad 10)), (1, .int a0), (2, .int b0)] d_River_neighbour_19 (by decide) rfl ?_
  refine g_iload_n C0 1 d_River_neighbour_21 rfl rfl ?_
  have hB := ite_some hE
  refine g_if_lt C0 (tgt := 43) d_River_neighbour_22 (by decide) (fun c_ => ?_) (fun c_ => ?_)
  · replace hE := hB.1 c_
    refine g_iload_n C0 3 d_River_neighbour_43 rfl rfl ?_
    obtain rfl := Option.some.inj hE
    exact g_iret C0 hr d_River_neighbour_44
  · replace hE := hB.2 c_
    refine g_iload_n C0 1 d_River_neighbour_25 rfl rfl ?_
    refine g_bipush C0 (v := 8) d_River_neighbour_26 (by decide) ?_
    have hB := ite_some hE
    refine g_icmp_ge C0 (tgt := 43) d_River_neighbour_28 (by decide) (fun c_ => ?_) (fun c_ => ?_)
    · replace hE := hB.1 c_
      refine g_iload_n C0 3 d_River_neighbour_43 rfl rfl ?_
      obtain rfl := Option.some.inj hE
      exact g_iret C0 hr d_River_neighbour_44
    · replace hE := hB.2 c_
      refine g_iload C0 0 d_River_neighbour_31 rfl ?_
      have hB := ite_some hE
      refine g_if_lt C0 (tgt := 43) d_River_neighbour_33 (by decide) (fun c_ => ?_) (fun c_ => ?_)
      · replace hE := hB.1 c_
        refine g_iload_n C0 3 d_River_neighbour_43 rfl rfl ?_
        obtain rfl := Option.some.inj hE
        exact g_iret C0 hr d_River_neighbour_44
      · replace hE := hB.2 c_
        refine g_iload C0 0 d_River_neighbour_36 rfl ?_
        refine g_bipush C0 (v := 6) d_River_neighbour_38 (by decide) ?_
        have hB := ite_some hE
        refine g_icmp_lt C0 (tgt := 45) d_River_neighbour_40 (by decide) (fun c_ => ?_) (fun c_ => ?_)
        · replace hE := hB.1 c_
          refine g_iload C0 0 d_River_neighbour_45 rfl ?_
          refine g_bipush C0 (v := 8) d_River_neighbour_47 (by decide) ?_
          refine g_imul C0 d_River_neighbour_49 ?_
          refine g_iload_n C0 1 d_River_neighbour_50 rfl rfl ?_
          refine g_iadd C0 d_River_neighbour_51 ?_
          obtain ⟨v52, e52, hE⟩ := nm_some hE
          refine g_top e52 ?_
          refine g_istore C0 [(5, .int v52), (4, .int v19), (3, .int v9), (0, .ref (ad 10)), (1, .int a0), (2, .int b0)] d_River_neighbour_52 (by decide) rfl ?_
          refine g_aload_n C0 3 d_River_neighbour_54 rfl rfl ?_
          refine g_iload C0 0 d_River_neighbour_55 rfl ?_
          obtain ⟨v57, z57, hE⟩ := bd_some hE
          refine g_calliP C0 nd_River [10, 11, 12] rfl (sbW_self WRiver) (runV C0 (m_River_kindOf l K ad h v52 z57) 1 rfl ⟨t_407, t_408, t_409, t_86, t_410⟩ cd_River_kindOf (by decide) 0 rfl rfl (sbW_self WRiver) nd_River rfl rfl (Nat.le_of_ble_eq_true rfl) d_River_neighbour_57) ?_
          refine g_iconst C0 (v := 1) d_River_neighbour_60 (by decide) ?_
          have hB := ite_some hE
          refine g_icmp_ne C0 (tgt := 68) d_River_neighbour_61 (by decide) (fun c_ => ?_) (fun c_ => ?_)
          · replace hE := hB.2 c_
            refine g_iload C0 0 d_River_neighbour_68 rfl ?_
            obtain rfl := Option.some.inj hE
            exact g_iret C0 hr d_River_neighbour_70
          · replace hE := hB.1 c_
            refine g_iload_n C0 4 d_River_neighbour_64 rfl rfl ?_
            refine g_goto C0 (tgt := 70) d_River_neighbour_65 (by decide) ?_
            obtain rfl := Option.some.inj hE
            exact g_iret C0 hr d_River_neighbour_70
        · replace hE := hB.2 c_
          refine g_iload_n C0 3 d_River_neighbour_43 rfl rfl ?_
          obtain rfl := Option.some.inj hE
          exact g_iret C0 hr d_River_neighbour_44
theorem m_River_neighbour (l : Launch) (K : KT) (ad : Nat → Nat) (h : Hp) (a0 : Int32) (b0 : Int32) {res : Int32} (hE : K_River_neighbour a0 b0 h = some res) : ConI l y_River_neighbour prog_9_method_8_code 6 (Option.some Jvm.ClassFile.FieldType.int) rm_River_neighbour K WRiver ad h [.ref (ad 10), .int a0, .int b0] res h := fun sz =>
  con_start [(0, .ref (ad 10)), (1, .int a0), (2, .int b0)] (by decide +kernel) rfl (Nat.le_of_ble_eq_true rfl) (fun p e s m args below meth c C0 hr hnm hsz => w_River_neighbour C0 hr a0 b0 h hE)
abbrev y_River_pushed : MethodName := ⟨"CanoeSides$River", "pushed", "(III)I"⟩
abbrev rm_River_pushed : Room := { frames := 2, cells := 0, slots := 0, locals := 46 }
theorem cd_River_pushed : cwd y_River_pushed 3 := by decide +kernel
theorem d_River_pushed_0 : decode prog_9_method_9_code 0 = .ok (.iload_n 1, 1) := by decide +kernel
theorem d_River_pushed_1 : decode prog_9_method_9_code 1 = .ok (.istore 4, 2) := by decide +kernel
theorem d_River_pushed_3 : decode prog_9_method_9_code 3 = .ok (.iload_n 3, 1) := by decide +kernel
theorem d_River_pushed_4 : decode prog_9_method_9_code 4 = .ok (.ifCond .ge 9, 3) := by decide +kernel
theorem d_River_pushed_7 : decode prog_9_method_9_code 7 = .ok (.iload_n 2, 1) := by decide +kernel
theorem d_River_pushed_8 : decode prog_9_method_9_code 8 = .ok (.iconst 4, 1) := by decide +kernel
theorem d_River_pushed_9 : decode prog_9_method_9_code 9 = .ok (.iadd, 1) := by decide +kernel
theorem d_River_pushed_10 : decode prog_9_method_9_code 10 = .ok (.goto 4, 3) := by decide +kernel
theorem d_River_pushed_13 : decode prog_9_method_9_code 13 = .ok (.iload_n 2, 1) := by decide +kernel
theorem d_River_pushed_14 : decode prog_9_method_9_code 14 = .ok (.istore 5, 2) := by decide +kernel
theorem d_River_pushed_16 : decode prog_9_method_9_code 16 = .ok (.aload_n 0, 1) := by decide +kernel
theorem d_River_pushed_17 : decode prog_9_method_9_code 17 = .ok (.iload_n 1, 1) := by decide +kernel
theorem d_River_pushed_18 : decode prog_9_method_9_code 18 = .ok (.invokevirtual 65, 3) := by decide +kernel
theorem d_River_pushed_21 : decode prog_9_method_9_code 21 = .ok (.iconst 2, 1) := by decide +kernel
theorem d_River_pushed_22 : decode prog_9_method_9_code 22 = .ok (.if_icmp .ne 7, 3) := by decide +kernel
theorem d_River_pushed_25 : decode prog_9_method_9_code 25 = .ok (.iconst 0, 1) := by decide +kernel
theorem d_River_pushed_26 : decode prog_9_method_9_code 26 = .ok (.goto 7, 3) := by decide +kernel
theorem d_River_pushed_29 : decode prog_9_method_9_code 29 = .ok (.iload_n 3, 1) := by decide +kernel
theorem d_River_pushed_30 : decode prog_9_method_9_code 30 = .ok (.invokestatic 68, 3) := by decide +kernel
theorem d_River_pushed_33 : decode prog_9_method_9_code 33 = .ok (.istore 6, 2) := by decide +kernel
theorem d_River_pushed_35 : decode prog_9_method_9_code 35 = .ok (.iconst 0, 1) := by decide +kernel
theorem d_River_pushed_36 : decode prog_9_method_9_code 36 = .ok (.istore 7, 2) := by decide +kernel
theorem d_River_pushed_38 : decode prog_9_method_9_code 38 = .ok (.iload 7, 2) := by decide +kernel
theorem d_River_pushed_40 : decode prog_9_method_9_code 40 = .ok (.iload 6, 2) := by decide +kernel
theorem d_River_pushed_42 : decode prog_9_method_9_code 42 = .ok (.if_icmp .ge 25, 3) := by decide +kernel
theorem d_River_pushed_45 : decode prog_9_method_9_code 45 = .ok (.iload 7, 2) := by decide +kernel
theorem d_River_pushed_47 : decode prog_9_method_9_code 47 = .ok (.iconst 2, 1) := by decide +kernel
theorem d_River_pushed_48 : decode prog_9_method_9_code 48 = .ok (.if_icmp .ge 19, 3) := by decide +kernel
theorem d_River_pushed_51 : decode prog_9_method_9_code 51 = .ok (.aload_n 0, 1) := by decide +kernel
theorem d_River_pushed_52 : decode prog_9_method_9_code 52 = .ok (.iload 4, 2) := by decide +kernel
theorem d_River_pushed_54 : decode prog_9_method_9_code 54 = .ok (.iload 5, 2) := by decide +kernel
theorem d_River_pushed_56 : decode prog_9_method_9_code 56 = .ok (.invokevirtual 73, 3) := by decide +kernel
theorem d_River_pushed_59 : decode prog_9_method_9_code 59 = .ok (.istore 4, 2) := by decide +kernel
theorem d_River_pushed_61 : decode prog_9_method_9_code 61 = .ok (.iinc 7 1, 3) := by decide +kernel
theorem d_River_pushed_64 : decode prog_9_method_9_code 64 = .ok (.goto (-26), 3) := by decide +kernel
theorem d_River_pushed_67 : decode prog_9_method_9_code 67 = .ok (.aload_n 0, 1) := by decide +kernel
theorem d_River_pushed_68 : decode prog_9_method_9_code 68 = .ok (.iload 4, 2) := by decide +kernel
theorem d_River_pushed_70 : decode prog_9_method_9_code 70 = .ok (.invokevirtual 65, 3) := by decide +kernel
theorem d_River_pushed_73 : decode prog_9_method_9_code 73 = .ok (.istore 7, 2) := by decide +kernel
theorem d_River_pushed_75 : decode prog_9_method_9_code 75 = .ok (.iload 7, 2) := by decide +kernel
theorem d_River_pushed_77 : decode prog_9_method_9_code 77 = .ok (.iconst 3, 1) := by decide +kernel
theorem d_River_pushed_78 : decode prog_9_method_9_code 78 = .ok (.if_icmp .ge 8, 3) := by decide +kernel
theorem d_River_pushed_81 : decode prog_9_method_9_code 81 = .ok (.iload 4, 2) := by decide +kernel
theorem d_River_pushed_83 : decode prog_9_method_9_code 83 = .ok (.goto 15, 3) := by decide +kernel
theorem d_River_pushed_86 : decode prog_9_method_9_code 86 = .ok (.aload_n 0, 1) := by decide +kernel
theorem d_River_pushed_87 : decode prog_9_method_9_code 87 = .ok (.iload 4, 2) := by decide +kernel
theorem d_River_pushed_89 : decode prog_9_method_9_code 89 = .ok (.iconst 2, 1) := by decide +kernel
theorem d_River_pushed_90 : decode prog_9_method_9_code 90 = .ok (.iload 7, 2) := by decide +kernel
theorem d_River_pushed_92 : decode prog_9_method_9_code 92 = .ok (.iconst 3, 1) := by decide +kernel
theorem d_River_pushed_93 : decode prog_9_method_9_code 93 = .ok (.isub, 1) := by decide +kernel
theorem d_River_pushed_94 : decode prog_9_method_9_code 94 = .ok (.imul, 1) := by decide +kernel
theorem d_River_pushed_95 : decode prog_9_method_9_code 95 = .ok (.invokevirtual 73, 3) := by decide +kernel
theorem d_River_pushed_98 : decode prog_9_method_9_code 98 = .ok (.ireturn, 1) := by decide +kernel
theorem w_River_pushed_L38 {p : Program} {l : Launch} {e : Env} {s : State} {m : MethodId} {args : Array Value} {below : List Frame} {meth : Method} {c : Code} {K : KT} {A : Nat → Prop} {Q : State → Prop} (C0 : Cx p s m args meth c prog_9_method_9_code "CanoeSides$River" 8 K A) (hr : meth.sig.returnType = (Option.some Jvm.ClassFile.FieldType.int)) {ad : Nat → Nat} (N : Nat) (x4 : Int32) (x5 : Int32) (x6 : Int32) (x7 : Int32) (h : Hp) {x_ : (Int32 × Int32) ⊕ (Int32)} (hE : K_River_pushed_L38 N x4 x5 x6 x7 h = some x_) (hk1 : ∀ z_, x_ = .inl z_ → G p l e rm_River_pushed s m args below meth c K A WRiver 8 0 0 Q 38 [(0, .ref (ad 10)), (4, .int z_.1), (5, .int x5), (6, .int x6), (7, .int z_.2)] [] ad h) (hk3 : ∀ z_, x_ = .inr z_ → G p l e rm_River_pushed s m args below meth c K A WRiver 8 0 0 Q 67 [(0, .ref (ad 10)), (4, .int z_)] [] ad h) : G p l e rm_River_pushed s m args below meth c K A WRiver 8 0 0 Q 38 [(0, .ref (ad 10)), (4, .int x4), (5, .int x5), (6, .int x6), (7, .int x7)] [] ad h := by
  unfold K_River_pushed_L38 at hE
  refine g_iload C0 4 d_River_pushed_38 rfl ?_
  refine g_iload C0 3 d_River_pushed_40 rfl ?_
  have hB := ite_some hE
  refine g_icmp_ge C0 (tgt := 67) d_River_pushed_42 (by decide) (fun c_ => ?_) (fun c_ => ?_)
  · replace hE := hB.1 c_
    refine g_sub [0, 1] (L' := [(0, .ref (ad 10)), (4, .int x4)]) rfl ?_
    exact hk3 _ (Option.some.inj hE).symm
  · replace hE := hB.2 c_
    refine g_iload C0 4 d_River_pushed_45 rfl ?_
    refine g_iconst C0 (v := 2) d_River_pushed_47 (by decide) ?_
    have hB := ite_some hE
    refine g_icmp_ge C0 (tgt := 67) d_River_pushed_48 (by decide) (fun c_ => ?_) (fun c_ => ?_)
    · replace hE := hB.1 c_
      refine g_sub [0, 1] (L' := [(0, .ref (ad 10)), (4, .int x4)]) rfl ?_
      exact hk3 _ (Option.some.inj hE).symm
    · replace hE := hB.2 c_
      refine g_aload_n C0 0 d_River_pushed_51 rfl rfl ?_
      refine g_iload C0 1 d_River_pushed_52 rfl ?_
      refine g_iload C0 2 d_River_pushed_54 rfl ?_
      obtain ⟨v56, z56, hE⟩ := bd_some hE
      refine g_calliP C0 nd_River [10, 11, 12] rfl (sbW_self WRiver) (runV C0 (m_River_neighbour l K ad h x4 x5 z56) 2 rfl ⟨t_393, t_394, t_395, t_86, t_396⟩ cd_River_neighbour (by decide) 0 rfl rfl (sbW_self WRiver) nd_River rfl rfl (Nat.le_of_ble_eq_true rfl) d_River_pushed_56) ?_
      refine g_istore C0 [(4, .int v56), (0, .ref (ad 10)), (5, .int x5), (6, .int x6), (7, .int x7)] d_River_pushed_59 (by decide) rfl ?_
      obtain ⟨v61, e61, hE⟩ := nm_some hE
      refine g_iinc C0 4 [(7, .int v61), (4, .int v56), (0, .ref (ad 10)), (5, .int x5), (6, .int x6)] d_River_pushed_61 rfl (by rw [e61]; rfl) (by decide) rfl ?_
      refine g_goto C0 (tgt := 38) d_River_pushed_64 (by decide) ?_
      refine g_sub [2, 1, 3, 4, 0] (L' := [(0, .ref (ad 10)), (4, .int v56), (5, .int x5), (6, .int x6), (7, .int v61)]) rfl ?_
      exact hk1 _ (Option.some.inj hE).symm
theorem w_River_pushed_J67 {p : Program} {l : Launch} {e : Env} {s : State} {m : MethodId} {args : Array Value} {below : List Frame} {meth : Method} {c : Code} {K : KT} {A : Nat → Prop} (C0 : Cx p s m args meth c prog_9_method_9_code "CanoeSides$River" 8 K A) (hr : meth.sig.returnType = (Option.some Jvm.ClassFile.FieldType.int)) {ad : Nat → Nat} (N : Nat) (x4 : Int32) (h : Hp) {res : Int32} (hE : K_River_pushed_J67 N x4 h = some res) : G p l e rm_River_pushed s m args below meth c K A WRiver 8 0 0 (QI s args below K A WRiver 0 0 ad res h) 67 [(0, .ref (ad 10)), (4, .int x4)] [] ad h := by
  unfold K_River_pushed_J67 at hE
  refine g_aload_n C0 0 d_River_pushed_67 rfl rfl ?_
  refine g_iload C0 1 d_River_pushed_68 rfl ?_
  obtain ⟨v70, z70, hE⟩ := bd_some hE
  refine g_calliP C0 nd_River [10, 11, 12] rfl (sbW_self WRiver) (runV C0 (m_River_kindOf l K ad h x4 z70) 1 rfl ⟨t_407, t_408, t_409, t_86, t_410⟩ cd_River_kindOf (by decide) 0 rfl rfl (sbW_self WRiver) nd_River rfl rfl (Nat.le_of_ble_eq_true rfl) d_River_pushed_70) ?_
  refine g_istore C0 [(7, .int v70), (0, .ref (ad 10)), (4, .int x4)] d_River_pushed_73 (by decide) rfl ?_
  refine g_iload C0 0 d_River_pushed_75 rfl ?_
  refine g_iconst C0 (v := 3) d_River_pushed_77 (by decide) ?_
  have hB := ite_some hE
  refine g_icmp_ge C0 (tgt := 86) d_River_pushed_78 (by decide) (fun c_ => ?_) (fun c_ => ?_)
  · replace hE := hB.1 c_
    refine g_aload_n C0 1 d_River_pushed_86 rfl rfl ?_
    refine g_iload C0 2 d_River_pushed_87 rfl ?_
    refine g_iconst C0 (v := 2) d_River_pushed_89 (by decide) ?_
    refine g_iload C0 0 d_River_pushed_90 rfl ?_
    refine g_iconst C0 (v := 3) d_River_pushed_92 (by decide) ?_
    refine g_isub C0 d_River_pushed_93 ?_
    refine g_imul C0 d_River_pushed_94 ?_
    obtain ⟨v95, z95, hE⟩ := bd_some hE
    refine g_calliP C0 nd_River [10, 11, 12] rfl (sbW_self WRiver) (runV C0 (m_River_neighbour l K ad h x4 (2 * (v70 - 3)) z95) 2 rfl ⟨t_393, t_394, t_395, t_86, t_396⟩ cd_River_neighbour (by decide) 0 rfl rfl (sbW_self WRiver) nd_River rfl rfl (Nat.le_of_ble_eq_true rfl) d_River_pushed_95) ?_
    obtain rfl := Option.some.inj hE
    exact g_iret C0 hr d_River_pushed_98
  · replace hE := hB.2 c_
    refine g_iload C0 2 d_River_pushed_81 rfl ?_
    refine g_goto C0 (tgt := 98) d_River_pushed_83 (by decide) ?_
    obtain rfl := Option.some.inj hE
    exact g_iret C0 hr d_River_pushed_98
theorem w_River_pushed_J33 {p : Program} {l : Launch} {e : Env} {s : State} {m : MethodId} {args : Array Value} {below : List Frame} {meth : Method} {c : Code} {K : KT} {A : Nat → Prop} (C0 : Cx p s m args meth c prog_9_method_9_code "CanoeSides$River" 8 K A) (hr : meth.sig.returnType = (Option.some Jvm.ClassFile.FieldType.int)) {ad : Nat → Nat} (N : Nat) (x4 : Int32) (x5 : Int32) (y0 : Int32) (h : Hp) {res : Int32} (hE : K_River_pushed_J33 N x4 x5 y0 h = some res) : G p l e rm_River_pushed s m args below meth c K A WRiver 8 0 0 (QI s args below K A WRiver 0 0 ad res h) 33 [(0, .ref (ad 10)), (4, .int x4), (5, .int x5)] [.int y0] ad h := by
  unfold K_River_pushed_J33 at hE
  refine g_istore C0 [(6, .int y0), (0, .ref (ad 10)), (4, .int x4), (5, .int x5)] d_River_pushed_33 (by decide) rfl ?_
  refine g_iconst C0 (v := 0) d_River_pushed_35 (by decide) ?_
  refine g_istore C0 [(7, .int 0), (6, .int y0), (0, .ref (ad 10)), (4, .int x4), (5, .int x5)] d_River_pushed_36 (by decide) rfl ?_
  refine g_sub [2, 3, 4, 1, 0] (L' := [(0, .ref (ad 10)), (4, .int x4), (5, .int x5), (6, .int y0), (7, .int 0)]) rfl ?_
  obtain ⟨t38, z38, hE⟩ := bd_some hE
  refine loopG (fun z_ : Int32 × Int32 => K_River_pushed_L38 N z_.1 x5 y0 z_.2 h) (fun z_ : Int32 × Int32 => G p l e rm_River_pushed s m args below meth c K A WRiver 8 0 0 _ 38 [(0, .ref (ad 10)), (4, .int z_.1), (5, .int x5), (6, .int y0), (7, .int z_.2)] [] ad h) (fun z_ : Int32 => G p l e rm_River_pushed s m args below meth c K A WRiver 8 0 0 _ 67 [(0, .ref (ad 10)), (4, .int z_)] [] ad h) (fun z_ x_ hz k1 k2 => w_River_pushed_L38 C0 hr N z_.1 x5 y0 z_.2 h hz k1 k2) _ _ _ z38 ?_
  try dsimp only
  exact w_River_pushed_J67 C0 hr N t38 h hE
theorem w_River_pushed_J14 {p : Program} {l : Launch} {e : Env} {s : State} {m : MethodId} {args : Array Value} {below : List Frame} {meth : Method} {c : Code} {K : KT} {A : Nat → Prop} (C0 : Cx p s m args meth c prog_9_method_9_code "CanoeSides$River" 8 K A) (hr : meth.sig.returnType = (Option.some Jvm.ClassFile.FieldType.int)) {ad : Nat → Nat} (N : Nat) (x1 : Int32) (x3 : Int32) (x4 : Int32) (y0 : Int32) (h : Hp) {res : Int32} (hE : K_River_pushed_J14 N x1 x3 x4 y0 h = some res) : G p l e rm_River_pushed s m args below meth c K A WRiver 8 0 0 (QI s args below K A WRiver 0 0 ad res h) 14 [(0, .ref (ad 10)), (1, .int x1), (3, .int x3), (4, .int x4)] [.int y0] ad h := by
  unfold K_River_pushed_J14 at hE
  refine g_istore C0 [(5, .int y0), (0, .ref (ad 10)), (1, .int x1), (3, .int x3), (4, .int x4)] d_River_pushed_14 (by decide) rfl ?_
  refine g_aload_n C0 1 d_River_pushed_16 rfl rfl ?_
  refine g_iload_n C0 2 d_River_pushed_17 rfl rfl ?_
  obtain ⟨v18, z18, hE⟩ := bd_some hE
  refine g_calliP C0 nd_River [10, 11, 12] rfl (sbW_self WRiver) (runV C0 (m_River_kindOf l K ad h x1 z18) 1 rfl ⟨t_407, t_408, t_409, t_86, t_410⟩ cd_River_kindOf (by decide) 0 rfl rfl (sbW_self WRiver) nd_River rfl rfl (Nat.le_of_ble_eq_true rfl) d_River_pushed_18) ?_
  refine g_iconst C0 (v := 2) d_River_pushed_21 (by decide) ?_
  have hB := ite_some hE
  refine g_icmp_ne C0 (tgt := 29) d_River_pushed_22 (by decide) (fun c_ => ?_) (fun c_ => ?_)
  · replace hE := hB.2 c_
    refine g_iload_n C0 3 d_River_pushed_29 rfl rfl ?_
    refine g_abs C0 t_415 ⟨Nat.le_of_ble_eq_true rfl, Nat.le_of_ble_eq_true rfl, Nat.zero_le _, Nat.zero_le _⟩ d_River_pushed_30 ?_
    refine g_sub [1, 4, 0] (L' := [(0, .ref (ad 10)), (4, .int x4), (5, .int y0)]) rfl ?_
    exact w_River_pushed_J33 C0 hr N x4 y0 (if 0 ≤ x3 then x3 else 0 - x3) h hE
  · replace hE := hB.1 c_
    refine g_iconst C0 (v := 0) d_River_pushed_25 (by decide) ?_
    refine g_goto C0 (tgt := 33) d_River_pushed_26 (by decide) ?_
    refine g_sub [1, 4, 0] (L' := [(0, .ref (ad 10)), (4, .int x4), (5, .int y0)]) rfl ?_
    exact w_River_pushed_J33 C0 hr N x4 y0 0 h hE
theorem w_River_pushed {p : Program} {l : Launch} {e : Env} {s : State} {m : MethodId} {args : Array Value} {below : List Frame} {meth : Method} {c : Code} {K : KT} {A : Nat → Prop} (C0 : Cx p s m args meth c prog_9_method_9_code "CanoeSides$River" 8 K A) (hr : meth.sig.returnType = (Option.some Jvm.ClassFile.FieldType.int)) {ad : Nat → Nat} (N : Nat) (a0 : Int32) (b0 : Int32) (c0 : Int32) (h : Hp) {res : Int32} (hE : K_River_pushed N a0 b0 c0 h = some res) : G p l e rm_River_pushed s m args below meth c K A WRiver 8 0 0 (QI s args below K A WRiver 0 0 ad res h) 0 [(0, .ref (ad 10)), (1, .int a0), (2, .int b0), (3, .int c0)] [] ad h := by
  unfold K_River_pushed at hE
  refine g_iload_n C0 1 d_River_pushed_0 rfl rfl ?_
  refine g_istore C0 [(4, .int a0), (0, .ref (ad 10)), (1, .int a0), (2, .int b0), (3, .int c0)] d_River_pushed_1 (by decide) rfl ?_
  refine g_iload_n C0 4 d_River_pushed_3 rfl rfl ?_
  have hB := ite_some hE
  refine g_if_ge C0 (tgt := 13) d_River_pushed_4 (by decide) (fun c_ => ?_) (fun c_ => ?_)
  · replace hE := hB.1 c_
    refine g_iload_n C0 3 d_River_pushed_13 rfl rfl ?_
    refine g_sub [1, 2, 4, 0] (L' := [(0, .ref (ad 10)), (1, .int a0), (3, .int c0), (4, .int a0)]) rfl ?_
    exact w_River_pushed_J14 C0 hr N a0 c0 a0 b0 h hE
  · replace hE := hB.2 c_
    refine g_iload_n C0 3 d_River_pushed_7 rfl rfl ?_
    refine g_iconst C0 (v := 4) d_River_pushed_8 (by decide) ?_
    refine g_iadd C0 d_River_pushed_9 ?_
    refine g_goto C0 (tgt := 14) d_River_pushed_10 (by decide) ?_
    refine g_sub [1, 2, 4, 0] (L' := [(0, .ref (ad 10)), (1, .int a0), (3, .int c0), (4, .int a0)]) rfl ?_
    exact w_River_pushed_J14 C0 hr N a0 c0 a0 (b0 + 4) h hE
theorem m_River_pushed (l : Launch) (K : KT) (ad : Nat → Nat) (h : Hp) (N : Nat) (a0 : Int32) (b0 : Int32) (c0 : Int32) {res : Int32} (hE : K_River_pushed N a0 b0 c0 h = some res) : ConI l y_River_pushed prog_9_method_9_code 8 (Option.some Jvm.ClassFile.FieldType.int) rm_River_pushed K WRiver ad h [.ref (ad 10), .int a0, .int b0, .int c0] res h := fun sz =>
  con_start [(0, .ref (ad 10)), (1, .int a0), (2, .int b0), (3, .int c0)] (by decide +kernel) rfl (Nat.le_of_ble_eq_true rfl) (fun p e s m args below meth c C0 hr hnm hsz => w_River_pushed C0 hr N a0 b0 c0 h hE)
abbrev y_River_blown : MethodName := ⟨"CanoeSides$River", "blown", "(I)I"⟩
abbrev rm_River_blown : Room := { frames := 2, cells := 0, slots := 0, locals := 46 }
theorem cd_River_blown : cwd y_River_blown 1 := by decide +kernel
theorem d_River_blown_0 : decode prog_9_method_10_code 0 = .ok (.aload_n 0, 1) := by decide +kernel
theorem d_River_blown_1 : decode prog_9_method_10_code 1 = .ok (.getfield 43, 3) := by decide +kernel
theorem d_River_blown_4 : decode prog_9_method_10_code 4 = .ok (.iconst (-1), 1) := by decide +kernel
theorem d_River_blown_5 : decode prog_9_method_10_code 5 = .ok (.if_icmp .ne 7, 3) := by decide +kernel
theorem d_River_blown_8 : decode prog_9_method_10_code 8 = .ok (.iload_n 1, 1) := by decide +kernel
theorem d_River_blown_9 : decode prog_9_method_10_code 9 = .ok (.goto 14, 3) := by decide +kernel
theorem d_River_blown_12 : decode prog_9_method_10_code 12 = .ok (.aload_n 0, 1) := by decide +kernel
theorem d_River_blown_13 : decode prog_9_method_10_code 13 = .ok (.iload_n 1, 1) := by decide +kernel
theorem d_River_blown_14 : decode prog_9_method_10_code 14 = .ok (.iconst 2, 1) := by decide +kernel
theorem d_River_blown_15 : decode prog_9_method_10_code 15 = .ok (.aload_n 0, 1) := by decide +kernel
theorem d_River_blown_16 : decode prog_9_method_10_code 16 = .ok (.getfield 43, 3) := by decide +kernel
theorem d_River_blown_19 : decode prog_9_method_10_code 19 = .ok (.imul, 1) := by decide +kernel
theorem d_River_blown_20 : decode prog_9_method_10_code 20 = .ok (.invokevirtual 73, 3) := by decide +kernel
theorem d_River_blown_23 : decode prog_9_method_10_code 23 = .ok (.ireturn, 1) := by decide +kernel
theorem w_River_blown {p : Program} {l : Launch} {e : Env} {s : State} {m : MethodId} {args : Array Value} {below : List Frame} {meth : Method} {c : Code} {K : KT} {A : Nat → Prop} (C0 : Cx p s m args meth c prog_9_method_10_code "CanoeSides$River" 2 K A) (hr : meth.sig.returnType = (Option.some Jvm.ClassFile.FieldType.int)) {ad : Nat → Nat} (a0 : Int32) (h : Hp) {res : Int32} (hE : K_River_blown a0 h = some res) : G p l e rm_River_blown s m args below meth c K A WRiver 2 0 0 (QI s args below K A WRiver 0 0 ad res h) 0 [(0, .ref (ad 10)), (1, .int a0)] [] ad h := by
  unfold K_River_blown at hE
  refine g_aload_n C0 0 d_River_blown_0 rfl rfl ?_
  refine g_geti C0 CK_7 10 (by decide) t_156 0 rfl rfl d_River_blown_1 ?_
  refine g_iconst C0 (v := (-1)) d_River_blown_4 (by decide) ?_
  have hB := ite_some hE
  refine g_icmp_ne C0 (tgt := 12) d_River_blown_5 (by decide) (fun c_ => ?_) (fun c_ => ?_)
  · replace hE := hB.2 c_
    refine g_aload_n C0 0 d_River_blown_12 rfl rfl ?_
    refine g_iload_n C0 1 d_River_blown_13 rfl rfl ?_
    refine g_iconst C0 (v := 2) d_River_blown_14 (by decide) ?_
    refine g_aload_n C0 0 d_River_blown_15 rfl rfl ?_
    refine g_geti C0 CK_7 10 (by decide) t_156 0 rfl rfl d_River_blown_16 ?_
    refine g_imul C0 d_River_blown_19 ?_
    obtain ⟨v20, z20, hE⟩ := bd_some hE
    refine g_calliP C0 nd_River [10, 11, 12] rfl (sbW_self WRiver) (runV C0 (m_River_neighbour l K ad h a0 (2 * (h 10 10)) z20) 2 rfl ⟨t_393, t_394, t_395, t_86, t_396⟩ cd_River_neighbour (by decide) 0 rfl rfl (sbW_self WRiver) nd_River rfl rfl (Nat.le_of_ble_eq_true rfl) d_River_blown_20) ?_
    obtain rfl := Option.some.inj hE
    exact g_iret C0 hr d_River_blown_23
  · replace hE := hB.1 c_
    refine g_iload_n C0 1 d_River_blown_8 rfl rfl ?_
    refine g_goto C0 (tgt := 23) d_River_blown_9 (by decide) ?_
    obtain rfl := Option.some.inj hE
    exact g_iret C0 hr d_River_blown_23
theorem m_River_blown (l : Launch) (K : KT) (ad : Nat → Nat) (h : Hp) (a0 : Int32) {res : Int32} (hE : K_River_blown a0 h = some res) : ConI l y_River_blown prog_9_method_10_code 2 (Option.some Jvm.ClassFile.FieldType.int) rm_River_blown K WRiver ad h [.ref (ad 10), .int a0] res h := fun sz =>
  con_start [(0, .ref (ad 10)), (1, .int a0)] (by decide +kernel) rfl (Nat.le_of_ble_eq_true rfl) (fun p e s m args below meth c C0 hr hnm hsz => w_River_blown C0 hr a0 h hE)
abbrev y_Search_forget : MethodName := ⟨"CanoeSides$Search", "forget", "()V"⟩
abbrev rm_Search_forget : Room := { frames := 0, cells := 0, slots := 0, locals := 0 }
theorem cd_Search_forget : cwd y_Search_forget 0 := by decide +kernel
theorem d_Search_forget_0 : decode prog_10_method_2_code 0 = .ok (.aload_n 0, 1) := by decide +kernel
theorem d_Search_forget_1 : decode prog_10_method_2_code 1 = .ok (.iconst (-1), 1) := by decide +kernel
theorem d_Search_forget_2 : decode prog_10_method_2_code 2 = .ok (.putfield 31, 3) := by decide +kernel
theorem d_Search_forget_5 : decode prog_10_method_2_code 5 = .ok (.return_, 1) := by decide +kernel
theorem w_Search_forget {p : Program} {l : Launch} {e : Env} {s : State} {m : MethodId} {args : Array Value} {below : List Frame} {meth : Method} {c : Code} {K : KT} {A : Nat → Prop} (C0 : Cx p s m args meth c prog_10_method_2_code "CanoeSides$Search" 1 K A) (hr : meth.sig.returnType = (Option.none : Option Jvm.ClassFile.FieldType)) {ad : Nat → Nat} (h : Hp) {res : Hp} (hE : K_Search_forget h = some res) : G p l e rm_Search_forget s m args below meth c K A WSearch 1 0 0 (QV s args below K A WSearch 0 0 ad res) 0 [(0, .ref (ad 40))] [] ad h := by
  unfold K_Search_forget at hE
  refine g_aload_n C0 0 d_Search_forget_0 rfl rfl ?_
  refine g_iconst C0 (v := (-1)) d_Search_forget_1 (by decide) ?_
  obtain ⟨h2, e2, hE⟩ := nm_some hE
  refine g_puti C0 CK_8 CT_8 6 (by decide) t_305 rfl (by decide +kernel) nd_Search 0 rfl rfl d_Search_forget_2 ?_
  refine g_heap e2 ?_
  obtain rfl := Option.some.inj hE
  exact g_vret C0 hr d_Search_forget_5
theorem m_Search_forget (l : Launch) (K : KT) (ad : Nat → Nat) (h : Hp) {res : Hp} (hE : K_Search_forget h = some res) : ConV l y_Search_forget prog_10_method_2_code 1 (Option.none : Option Jvm.ClassFile.FieldType) rm_Search_forget K WSearch ad h [.ref (ad 40)] res := fun sz =>
  con_start [(0, .ref (ad 40))] (by decide +kernel) rfl (Nat.le_of_ble_eq_true rfl) (fun p e s m args below meth c C0 hr hnm hsz => w_Search_forget C0 hr h hE)
abbrev y_Search_reach : MethodName := ⟨"CanoeSides$Search", "reach", "(II)Z"⟩
abbrev rm_Search_reach : Room := { frames := 0, cells := 0, slots := 0, locals := 0 }
theorem cd_Search_reach : cwd y_Search_reach 2 := by decide +kernel
theorem d_Search_reach_0 : decode prog_10_method_6_code 0 = .ok (.iload_n 1, 1) := by decide +kernel
theorem d_Search_reach_1 : decode prog_10_method_6_code 1 = .ok (.ifCond .lt 34, 3) := by decide +kernel
theorem d_Search_reach_4 : decode prog_10_method_6_code 4 = .ok (.iload_n 1, 1) := by decide +kernel
theorem d_Search_reach_5 : decode prog_10_method_6_code 5 = .ok (.aload_n 0, 1) := by decide +kernel
theorem d_Search_reach_6 : decode prog_10_method_6_code 6 = .ok (.getfield 9, 3) := by decide +kernel
theorem d_Search_reach_9 : decode prog_10_method_6_code 9 = .ok (.arraylength, 1) := by decide +kernel
theorem d_Search_reach_10 : decode prog_10_method_6_code 10 = .ok (.if_icmp .ge 25, 3) := by decide +kernel
theorem d_Search_reach_13 : decode prog_10_method_6_code 13 = .ok (.aload_n 0, 1) := by decide +kernel
theorem d_Search_reach_14 : decode prog_10_method_6_code 14 = .ok (.getfield 9, 3) := by decide +kernel
theorem d_Search_reach_17 : decode prog_10_method_6_code 17 = .ok (.iload_n 1, 1) := by decide +kernel
theorem d_Search_reach_18 : decode prog_10_method_6_code 18 = .ok (.iaload, 1) := by decide +kernel
theorem d_Search_reach_19 : decode prog_10_method_6_code 19 = .ok (.iconst (-1), 1) := by decide +kernel
theorem d_Search_reach_20 : decode prog_10_method_6_code 20 = .ok (.if_icmp .ne 15, 3) := by decide +kernel
theorem d_Search_reach_23 : decode prog_10_method_6_code 23 = .ok (.aload_n 0, 1) := by decide +kernel
theorem d_Search_reach_24 : decode prog_10_method_6_code 24 = .ok (.getfield 21, 3) := by decide +kernel
theorem d_Search_reach_27 : decode prog_10_method_6_code 27 = .ok (.aload_n 0, 1) := by decide +kernel
theorem d_Search_reach_28 : decode prog_10_method_6_code 28 = .ok (.getfield 15, 3) := by decide +kernel
theorem d_Search_reach_31 : decode prog_10_method_6_code 31 = .ok (.arraylength, 1) := by decide +kernel
theorem d_Search_reach_32 : decode prog_10_method_6_code 32 = .ok (.if_icmp .lt 5, 3) := by decide +kernel
theorem d_Search_reach_35 : decode prog_10_method_6_code 35 = .ok (.iconst 0, 1) := by decide +kernel
theorem d_Search_reach_36 : decode prog_10_method_6_code 36 = .ok (.ireturn, 1) := by decide +kernel
theorem d_Search_reach_37 : decode prog_10_method_6_code 37 = .ok (.aload_n 0, 1) := by decide +kernel
theorem d_Search_reach_38 : decode prog_10_method_6_code 38 = .ok (.getfield 9, 3) := by decide +kernel
theorem d_Search_reach_41 : decode prog_10_method_6_code 41 = .ok (.iload_n 1, 1) := by decide +kernel
theorem d_Search_reach_42 : decode prog_10_method_6_code 42 = .ok (.iload_n 2, 1) := by decide +kernel
theorem d_Search_reach_43 : decode prog_10_method_6_code 43 = .ok (.iastore, 1) := by decide +kernel
theorem d_Search_reach_44 : decode prog_10_method_6_code 44 = .ok (.aload_n 0, 1) := by decide +kernel
theorem d_Search_reach_45 : decode prog_10_method_6_code 45 = .ok (.getfield 15, 3) := by decide +kernel
theorem d_Search_reach_48 : decode prog_10_method_6_code 48 = .ok (.aload_n 0, 1) := by decide +kernel
theorem d_Search_reach_49 : decode prog_10_method_6_code 49 = .ok (.getfield 21, 3) := by decide +kernel
theorem d_Search_reach_52 : decode prog_10_method_6_code 52 = .ok (.iload_n 1, 1) := by decide +kernel
theorem d_Search_reach_53 : decode prog_10_method_6_code 53 = .ok (.iastore, 1) := by decide +kernel
theorem d_Search_reach_54 : decode prog_10_method_6_code 54 = .ok (.aload_n 0, 1) := by decide +kernel
theorem d_Search_reach_55 : decode prog_10_method_6_code 55 = .ok (.dup, 1) := by decide +kernel
theorem d_Search_reach_56 : decode prog_10_method_6_code 56 = .ok (.getfield 21, 3) := by decide +kernel
theorem d_Search_reach_59 : decode prog_10_method_6_code 59 = .ok (.iconst 1, 1) := by decide +kernel
theorem d_Search_reach_60 : decode prog_10_method_6_code 60 = .ok (.iadd, 1) := by decide +kernel
theorem d_Search_reach_61 : decode prog_10_method_6_code 61 = .ok (.putfield 21, 3) := by decide +kernel
theorem d_Search_reach_64 : decode prog_10_method_6_code 64 = .ok (.iconst 1, 1) := by decide +kernel
theorem d_Search_reach_65 : decode prog_10_method_6_code 65 = .ok (.ireturn, 1) := by decide +kernel
theorem w_Search_reach {p : Program} {l : Launch} {e : Env} {s : State} {m : MethodId} {args : Array Value} {below : List Frame} {meth : Method} {c : Code} {K : KT} {A : Nat → Prop} (C0 : Cx p s m args meth c prog_10_method_6_code "CanoeSides$Search" 3 K A) (hr : meth.sig.returnType = (Option.some Jvm.ClassFile.FieldType.boolean)) {ad : Nat → Nat} (a0 : Int32) (b0 : Int32) (h : Hp) {res : Int32 × Hp} (hE : K_Search_reach a0 b0 h = some res) : G p l e rm_Search_reach s m args below meth c K A WSearch 3 0 0 (QI s args below K A WSearch 0 0 ad res.1 res.2) 0 [(0, .ref (ad 40)), (1, .int a0), (2, .int b0)] [] ad h := by
  unfold K_Search_reach at hE
  refine g_iload_n C0 1 d_Search_reach_0 rfl rfl ?_
  have hB := ite_some hE
  refine g_if_lt C0 (tgt := 35) d_Search_reach_1 (by decide) (fun c_ => ?_) (fun c_ => ?_)
  · replace hE := hB.1 c_
    refine g_iconst C0 (v := 0) d_Search_reach_35 (by decide) ?_
    obtain rfl := Option.some.inj hE
    exact g_zret C0 hr nz0 d_Search_reach_36
  · replace hE := hB.2 c_
    refine g_iload_n C0 1 d_Search_reach_4 rfl rfl ?_
    refine g_aload_n C0 0 d_Search_reach_5 rfl rfl ?_
    refine g_getr C0 CK_8 0 (by decide) t_298 0 rfl rfl d_Search_reach_6 ?_
    refine g_alen C0 1 rfl rfl (v := 3456) (by decide) d_Search_reach_9 ?_
    have hB := ite_some hE
    refine g_icmp_ge C0 (tgt := 35) d_Search_reach_10 (by decide) (fun c_ => ?_) (fun c_ => ?_)
    · replace hE := hB.1 c_
      refine g_iconst C0 (v := 0) d_Search_reach_35 (by decide) ?_
      obtain rfl := Option.some.inj hE
      exact g_zret C0 hr nz0 d_Search_reach_36
    · replace hE := hB.2 c_
      refine g_aload_n C0 0 d_Search_reach_13 rfl rfl ?_
      refine g_getr C0 CK_8 0 (by decide) t_298 0 rfl rfl d_Search_reach_14 ?_
      refine g_iload_n C0 1 d_Search_reach_17 rfl rfl ?_
      obtain ⟨q18, v18, e18, hE⟩ := gA_some hE
      refine g_iald C0 1 rfl q18 d_Search_reach_18 ?_
      refine g_top e18 ?_
      refine g_iconst C0 (v := (-1)) d_Search_reach_19 (by decide) ?_
      have hB := ite_some hE
      refine g_icmp_ne C0 (tgt := 35) d_Search_reach_20 (by decide) (fun c_ => ?_) (fun c_ => ?_)
      · replace hE := hB.2 c_
        refine g_iconst C0 (v := 0) d_Search_reach_35 (by decide) ?_
        obtain rfl := Option.some.inj hE
        exact g_zret C0 hr nz0 d_Search_reach_36
      · replace hE := hB.1 c_
        refine g_aload_n C0 0 d_Search_reach_23 rfl rfl ?_
        refine g_geti C0 CK_8 3 (by decide) t_301 0 rfl rfl d_Search_reach_24 ?_
        refine g_aload_n C0 0 d_Search_reach_27 rfl rfl ?_
        refine g_getr C0 CK_8 1 (by decide) t_299 0 rfl rfl d_Search_reach_28 ?_
        refine g_alen C0 2 rfl rfl (v := 3456) (by decide) d_Search_reach_31 ?_
        have hB := ite_some hE
        refine g_icmp_lt C0 (tgt := 37) d_Search_reach_32 (by decide) (fun c_ => ?_) (fun c_ => ?_)
        · replace hE := hB.1 c_
          refine g_aload_n C0 0 d_Search_reach_37 rfl rfl ?_
          refine g_getr C0 CK_8 0 (by decide) t_298 0 rfl rfl d_Search_reach_38 ?_
          refine g_iload_n C0 1 d_Search_reach_41 rfl rfl ?_
          refine g_iload_n C0 2 d_Search_reach_42 rfl rfl ?_
          obtain ⟨q43, hE⟩ := sA_some hE
          obtain ⟨h43, e43, hE⟩ := nm_some hE
          refine g_iast C0 1 rfl nd_Search q43 d_Search_reach_43 ?_
          refine g_heap e43 ?_
          refine g_aload_n C0 0 d_Search_reach_44 rfl rfl ?_
          refine g_getr C0 CK_8 1 (by decide) t_299 0 rfl rfl d_Search_reach_45 ?_
          refine g_aload_n C0 0 d_Search_reach_48 rfl rfl ?_
          refine g_geti C0 CK_8 3 (by decide) t_301 0 rfl rfl d_Search_reach_49 ?_
          refine g_iload_n C0 1 d_Search_reach_52 rfl rfl ?_
          obtain ⟨q53, hE⟩ := sA_some hE
          obtain ⟨h53, e53, hE⟩ := nm_some hE
          refine g_iast C0 2 rfl nd_Search q53 d_Search_reach_53 ?_
          refine g_heap e53 ?_
          refine g_aload_n C0 0 d_Search_reach_54 rfl rfl ?_
          refine g_dup C0 d_Search_reach_55 rfl ?_
          refine g_geti C0 CK_8 3 (by decide) t_301 0 rfl rfl d_Search_reach_56 ?_
          refine g_iconst C0 (v := 1) d_Search_reach_59 (by decide) ?_
          refine g_iadd C0 d_Search_reach_60 ?_
          obtain ⟨h61, e61, hE⟩ := nm_some hE
          refine g_puti C0 CK_8 CT_8 3 (by decide) t_301 rfl (by decide +kernel) nd_Search 0 rfl rfl d_Search_reach_61 ?_
          refine g_heap e61 ?_
          refine g_iconst C0 (v := 1) d_Search_reach_64 (by decide) ?_
          obtain rfl := Option.some.inj hE
          exact g_zret C0 hr nz1 d_Search_reach_65
        · replace hE := hB.2 c_
          refine g_iconst C0 (v := 0) d_Search_reach_35 (by decide) ?_
          obtain rfl := Option.some.inj hE
          exact g_zret C0 hr nz0 d_Search_reach_36
theorem m_Search_reach (l : Launch) (K : KT) (ad : Nat → Nat) (h : Hp) (a0 : Int32) (b0 : Int32) {res : Int32 × Hp} (hE : K_Search_reach a0 b0 h = some res) : ConI l y_Search_reach prog_10_method_6_code 3 (Option.some Jvm.ClassFile.FieldType.boolean) rm_Search_reach K WSearch ad h [.ref (ad 40), .int a0, .int b0] res.1 res.2 := fun sz =>
  con_start [(0, .ref (ad 40)), (1, .int a0), (2, .int b0)] (by decide +kernel) rfl (Nat.le_of_ble_eq_true rfl) (fun p e s m args below meth c C0 hr hnm hsz => w_Search_reach C0 hr a0 b0 h hE)
abbrev y_Search_spread : MethodName := ⟨"CanoeSides$Search", "spread", "(LCanoeSides$River;LCanoeSides$Crew;III)V"⟩
abbrev rm_Search_spread : Room := { frames := 3, cells := 0, slots := 0, locals := 73 }
theorem cd_Search_spread : cwd y_Search_spread 5 := by decide +kernel
theorem d_Search_spread_0 : decode prog_10_method_5_code 0 = .ok (.iload 4, 2) := by decide +kernel
theorem d_Search_spread_2 : decode prog_10_method_5_code 2 = .ok (.istore 6, 2) := by decide +kernel
theorem d_Search_spread_4 : decode prog_10_method_5_code 4 = .ok (.iload 6, 2) := by decide +kernel
theorem d_Search_spread_6 : decode prog_10_method_5_code 6 = .ok (.bipush 16, 2) := by decide +kernel
theorem d_Search_spread_8 : decode prog_10_method_5_code 8 = .ok (.if_icmp .ge 62, 3) := by decide +kernel
theorem d_Search_spread_11 : decode prog_10_method_5_code 11 = .ok (.aload_n 2, 1) := by decide +kernel
theorem d_Search_spread_12 : decode prog_10_method_5_code 12 = .ok (.iload_n 3, 1) := by decide +kernel
theorem d_Search_spread_13 : decode prog_10_method_5_code 13 = .ok (.iload 6, 2) := by decide +kernel
theorem d_Search_spread_15 : decode prog_10_method_5_code 15 = .ok (.invokevirtual 64, 3) := by decide +kernel
theorem d_Search_spread_18 : decode prog_10_method_5_code 18 = .ok (.istore 7, 2) := by decide +kernel
theorem d_Search_spread_20 : decode prog_10_method_5_code 20 = .ok (.aload_n 0, 1) := by decide +kernel
theorem d_Search_spread_21 : decode prog_10_method_5_code 21 = .ok (.iload 7, 2) := by decide +kernel
theorem d_Search_spread_23 : decode prog_10_method_5_code 23 = .ok (.iload_n 3, 1) := by decide +kernel
theorem d_Search_spread_24 : decode prog_10_method_5_code 24 = .ok (.bipush 16, 2) := by decide +kernel
theorem d_Search_spread_26 : decode prog_10_method_5_code 26 = .ok (.imul, 1) := by decide +kernel
theorem d_Search_spread_27 : decode prog_10_method_5_code 27 = .ok (.iload 6, 2) := by decide +kernel
theorem d_Search_spread_29 : decode prog_10_method_5_code 29 = .ok (.iadd, 1) := by decide +kernel
theorem d_Search_spread_30 : decode prog_10_method_5_code 30 = .ok (.invokevirtual 49, 3) := by decide +kernel
theorem d_Search_spread_33 : decode prog_10_method_5_code 33 = .ok (.ifCond .eq 23, 3) := by decide +kernel
theorem d_Search_spread_36 : decode prog_10_method_5_code 36 = .ok (.aload_n 1, 1) := by decide +kernel
theorem d_Search_spread_37 : decode prog_10_method_5_code 37 = .ok (.iload 7, 2) := by decide +kernel
theorem d_Search_spread_39 : decode prog_10_method_5_code 39 = .ok (.sipush 384, 3) := by decide +kernel
theorem d_Search_spread_42 : decode prog_10_method_5_code 42 = .ok (.irem, 1) := by decide +kernel
theorem d_Search_spread_43 : decode prog_10_method_5_code 43 = .ok (.invokevirtual 39, 3) := by decide +kernel
theorem d_Search_spread_46 : decode prog_10_method_5_code 46 = .ok (.ifCond .eq 10, 3) := by decide +kernel
theorem d_Search_spread_49 : decode prog_10_method_5_code 49 = .ok (.aload_n 0, 1) := by decide +kernel
theorem d_Search_spread_50 : decode prog_10_method_5_code 50 = .ok (.iload 7, 2) := by decide +kernel
theorem d_Search_spread_52 : decode prog_10_method_5_code 52 = .ok (.putfield 25, 3) := by decide +kernel
theorem d_Search_spread_55 : decode prog_10_method_5_code 55 = .ok (.return_, 1) := by decide +kernel
theorem d_Search_spread_56 : decode prog_10_method_5_code 56 = .ok (.iload 6, 2) := by decide +kernel
theorem d_Search_spread_58 : decode prog_10_method_5_code 58 = .ok (.iconst 1, 1) := by decide +kernel
theorem d_Search_spread_59 : decode prog_10_method_5_code 59 = .ok (.iload 5, 2) := by decide +kernel
theorem d_Search_spread_61 : decode prog_10_method_5_code 61 = .ok (.invokestatic 70, 3) := by decide +kernel
theorem d_Search_spread_64 : decode prog_10_method_5_code 64 = .ok (.iadd, 1) := by decide +kernel
theorem d_Search_spread_65 : decode prog_10_method_5_code 65 = .ok (.istore 6, 2) := by decide +kernel
theorem d_Search_spread_67 : decode prog_10_method_5_code 67 = .ok (.goto (-63), 3) := by decide +kernel
theorem d_Search_spread_70 : decode prog_10_method_5_code 70 = .ok (.return_, 1) := by decide +kernel
theorem w_Search_spread_J56 {p : Program} {l : Launch} {e : Env} {s : State} {m : MethodId} {args : Array Value} {below : List Frame} {meth : Method} {c : Code} {K : KT} {A : Nat → Prop} {Q : State → Prop} (C0 : Cx p s m args meth c prog_10_method_5_code "CanoeSides$Search" 8 K A) (hr : meth.sig.returnType = (Option.none : Option Jvm.ClassFile.FieldType)) {ad : Nat → Nat} (N : Nat) (x3 : Int32) (x5 : Int32) (x6 : Int32) (h : Hp) {x_ : (Int32 × Hp) ⊕ (Hp) ⊕ (Hp)} (hE : K_Search_spread_J56 N x3 x5 x6 h = some x_) (hk1 : ∀ z_, x_ = .inl z_ → G p l e rm_Search_spread s m args below meth c K A WSearch 8 0 0 Q 4 [(0, .ref (ad 40)), (1, .ref (ad 10)), (2, .ref (ad 20)), (3, .int x3), (5, .int x5), (6, .int z_.1)] [] ad z_.2) (hk2 : ∀ r_, x_ = .inr (.inl r_) → Q = (QV s args below K A WSearch 0 0 ad r_)) (hk3 : ∀ z_, x_ = .inr (.inr z_) → G p l e rm_Search_spread s m args below meth c K A WSearch 8 0 0 Q 70 [] [] ad z_) : G p l e rm_Search_spread s m args below meth c K A WSearch 8 0 0 Q 56 [(0, .ref (ad 40)), (1, .ref (ad 10)), (2, .ref (ad 20)), (3, .int x3), (5, .int x5), (6, .int x6)] [] ad h := by
  unfold K_Search_spread_J56 at hE
  refine g_iload C0 5 d_Search_spread_56 rfl ?_
  refine g_iconst C0 (v := 1) d_Search_spread_58 (by decide) ?_
  refine g_iload C0 4 d_Search_spread_59 rfl ?_
  refine g_max C0 t_860 ⟨Nat.le_of_ble_eq_true rfl, Nat.le_of_ble_eq_true rfl, Nat.zero_le _, Nat.zero_le _⟩ d_Search_spread_61 ?_
  refine g_iadd C0 d_Search_spread_64 ?_
  obtain ⟨v65, e65, hE⟩ := nm_some hE
  refine g_top e65 ?_
  refine g_istore C0 [(6, .int v65), (0, .ref (ad 40)), (1, .ref (ad 10)), (2, .ref (ad 20)), (3, .int x3), (5, .int x5)] d_Search_spread_65 (by decide) rfl ?_
  refine g_goto C0 (tgt := 4) d_Search_spread_67 (by decide) ?_
  refine g_sub [1, 2, 3, 4, 5, 0] (L' := [(0, .ref (ad 40)), (1, .ref (ad 10)), (2, .ref (ad 20)), (3, .int x3), (5, .int x5), (6, .int v65)]) rfl ?_
  exact hk1 _ (Option.some.inj hE).symm
theorem w_Search_spread_L4 {p : Program} {l : Launch} {e : Env} {s : State} {m : MethodId} {args : Array Value} {below : List Frame} {meth : Method} {c : Code} {K : KT} {A : Nat → Prop} {Q : State → Prop} (C0 : Cx p s m args meth c prog_10_method_5_code "CanoeSides$Search" 8 K A) (hr : meth.sig.returnType = (Option.none : Option Jvm.ClassFile.FieldType)) {ad : Nat → Nat} (N : Nat) (x3 : Int32) (x5 : Int32) (x6 : Int32) (h : Hp) {x_ : (Int32 × Hp) ⊕ (Hp) ⊕ (Hp)} (hE : K_Search_spread_L4 N x3 x5 x6 h = some x_) (hk1 : ∀ z_, x_ = .inl z_ → G p l e rm_Search_spread s m args below meth c K A WSearch 8 0 0 Q 4 [(0, .ref (ad 40)), (1, .ref (ad 10)), (2, .ref (ad 20)), (3, .int x3), (5, .int x5), (6, .int z_.1)] [] ad z_.2) (hk2 : ∀ r_, x_ = .inr (.inl r_) → Q = (QV s args below K A WSearch 0 0 ad r_)) (hk3 : ∀ z_, x_ = .inr (.inr z_) → G p l e rm_Search_spread s m args below meth c K A WSearch 8 0 0 Q 70 [] [] ad z_) : G p l e rm_Search_spread s m args below meth c K A WSearch 8 0 0 Q 4 [(0, .ref (ad 40)), (1, .ref (ad 10)), (2, .ref (ad 20)), (3, .int x3), (5, .int x5), (6, .int x6)] [] ad h := by
  unfold K_Search_spread_L4 at hE
  refine g_iload C0 5 d_Search_spread_4 rfl ?_
  refine g_bipush C0 (v := 16) d_Search_spread_6 (by decide) ?_
  have hB := ite_some hE
  refine g_icmp_ge C0 (tgt := 70) d_Search_spread_8 (by decide) (fun c_ => ?_) (fun c_ => ?_)
  · replace hE := hB.1 c_
    refine g_sub [] (L' := []) rfl ?_
    exact hk3 _ (Option.some.inj hE).symm
  · replace hE := hB.2 c_
    refine g_aload_n C0 2 d_Search_spread_11 rfl rfl ?_
    refine g_iload_n C0 3 d_Search_spread_12 rfl rfl ?_
    refine g_iload C0 5 d_Search_spread_13 rfl ?_
    obtain ⟨v15, z15, hE⟩ := bd_some hE
    refine g_calliP C0 nd_Search [20, 21, 22, 15, 16, 17] rfl (sb_Crew_Search) (runV C0 (m_Crew_after l K ad h x3 x6 z15) 2 rfl ⟨t_859, t_773, t_774, t_89, t_775⟩ cd_Crew_after (by decide) 7 rfl rfl (sb_Crew_Search) nd_Crew rfl rfl (Nat.le_of_ble_eq_true rfl) d_Search_spread_15) ?_
    refine g_istore C0 [(7, .int v15), (0, .ref (ad 40)), (1, .ref (ad 10)), (2, .ref (ad 20)), (3, .int x3), (5, .int x5), (6, .int x6)] d_Search_spread_18 (by decide) rfl ?_
    refine g_aload_n C0 1 d_Search_spread_20 rfl rfl ?_
    refine g_iload C0 0 d_Search_spread_21 rfl ?_
    refine g_iload_n C0 4 d_Search_spread_23 rfl rfl ?_
    refine g_bipush C0 (v := 16) d_Search_spread_24 (by decide) ?_
    refine g_imul C0 d_Search_spread_26 ?_
    refine g_iload C0 6 d_Search_spread_27 rfl ?_
    refine g_iadd C0 d_Search_spread_29 ?_
    obtain ⟨v30, h30, z30, hE⟩ := bd2_some hE
    refine g_calli C0 nd_Search [40, 41, 42, 43, 10, 11, 12, 20, 21, 22, 15, 16, 17] rfl (sbW_self WSearch) (runV C0 (m_Search_reach l K ad h v15 ((x3 * 16) + x6) z30) 2 rfl ⟨t_847, t_849, t_21, t_93, t_850⟩ cd_Search_reach (by decide) 0 rfl rfl (sbW_self WSearch) nd_Search rfl rfl (Nat.le_of_ble_eq_true rfl) d_Search_spread_30) ?_
    refine g_mx [40, 41, 42, 43, 10, 11, 12, 20, 21, 22, 15, 16, 17] rfl ?_
    have hB := ite_some hE
    refine g_if_eq C0 (tgt := 56) d_Search_spread_33 (by decide) (fun c_ => ?_) (fun c_ => ?_)
    · replace hE := hB.1 c_
      refine g_sub [1, 2, 3, 4, 5, 6] (L' := [(0, .ref (ad 40)), (1, .ref (ad 10)), (2, .ref (ad 20)), (3, .int x3), (5, .int x5), (6, .int x6)]) rfl ?_
      exact w_Search_spread_J56 C0 hr N x3 x5 x6 h30 hE hk1 hk2 hk3
    · replace hE := hB.2 c_
      refine g_aload_n C0 2 d_Search_spread_36 rfl rfl ?_
      refine g_iload C0 0 d_Search_spread_37 rfl ?_
      refine g_sipush C0 (v := 384) d_Search_spread_39 (by decide) ?_
      refine g_irem C0 d_Search_spread_42 (by decide) ?_
      obtain ⟨v43, z43, hE⟩ := bd_some hE
      refine g_calliP C0 nd_Search [10, 11, 12] rfl (sb_River_Search) (runV C0 (m_River_isGoal l K ad h30 (rm32 v15 384) z43) 1 rfl ⟨t_845, t_730, t_731, t_86, t_732⟩ cd_River_isGoal (by decide) 4 rfl rfl (sb_River_Search) nd_River rfl rfl (Nat.le_of_ble_eq_true rfl) d_Search_spread_43) ?_
      have hB := ite_some hE
      refine g_if_eq C0 (tgt := 56) d_Search_spread_46 (by decide) (fun c_ => ?_) (fun c_ => ?_)
      · replace hE := hB.1 c_
        refine g_sub [1, 2, 3, 4, 5, 6] (L' := [(0, .ref (ad 40)), (1, .ref (ad 10)), (2, .ref (ad 20)), (3, .int x3), (5, .int x5), (6, .int x6)]) rfl ?_
        exact w_Search_spread_J56 C0 hr N x3 x5 x6 h30 hE hk1 hk2 hk3
      · replace hE := hB.2 c_
        refine g_aload_n C0 1 d_Search_spread_49 rfl rfl ?_
        refine g_iload C0 0 d_Search_spread_50 rfl ?_
        obtain ⟨h52, e52, hE⟩ := nm_some hE
        refine g_puti C0 CK_8 CT_8 4 (by decide) t_302 rfl (by decide +kernel) nd_Search 0 rfl rfl d_Search_spread_52 ?_
        refine g_heap e52 ?_
        have hq := hk2 _ (Option.some.inj hE).symm
        rw [hq]
        exact g_vret C0 hr d_Search_spread_55
theorem w_Search_spread {p : Program} {l : Launch} {e : Env} {s : State} {m : MethodId} {args : Array Value} {below : List Frame} {meth : Method} {c : Code} {K : KT} {A : Nat → Prop} (C0 : Cx p s m args meth c prog_10_method_5_code "CanoeSides$Search" 8 K A) (hr : meth.sig.returnType = (Option.none : Option Jvm.ClassFile.FieldType)) {ad : Nat → Nat} (N : Nat) (c0 : Int32) (d0 : Int32) (e0 : Int32) (h : Hp) {res : Hp} (hE : K_Search_spread N c0 d0 e0 h = some res) : G p l e rm_Search_spread s m args below meth c K A WSearch 8 0 0 (QV s args below K A WSearch 0 0 ad res) 0 [(0, .ref (ad 40)), (1, .ref (ad 10)), (2, .ref (ad 20)), (3, .int c0), (4, .int d0), (5, .int e0)] [] ad h := by
  unfold K_Search_spread at hE
  refine g_iload C0 4 d_Search_spread_0 rfl ?_
  refine g_istore C0 [(6, .int d0), (0, .ref (ad 40)), (1, .ref (ad 10)), (2, .ref (ad 20)), (3, .int c0), (4, .int d0), (5, .int e0)] d_Search_spread_2 (by decide) rfl ?_
  refine g_sub [1, 2, 3, 4, 6, 0] (L' := [(0, .ref (ad 40)), (1, .ref (ad 10)), (2, .ref (ad 20)), (3, .int c0), (5, .int e0), (6, .int d0)]) rfl ?_
  obtain ⟨t4, z4, hE⟩ := bd_some hE
  refine loopG (fun z_ : Int32 × Hp => K_Search_spread_L4 N c0 e0 z_.1 z_.2) (fun z_ : Int32 × Hp => G p l e rm_Search_spread s m args below meth c K A WSearch 8 0 0 _ 4 [(0, .ref (ad 40)), (1, .ref (ad 10)), (2, .ref (ad 20)), (3, .int c0), (5, .int e0), (6, .int z_.1)] [] ad z_.2) (fun z_ : (Hp) ⊕ (Hp) => (∀ r_, z_ = .inl r_ → _ = (QV s args below K A WSearch 0 0 ad r_)) ∧ (∀ y_, z_ = .inr y_ → G p l e rm_Search_spread s m args below meth c K A WSearch 8 0 0 _ 70 [] [] ad y_)) (fun z_ x_ hz k1 k2 => w_Search_spread_L4 C0 hr N c0 e0 z_.1 z_.2 hz k1 (fun r_ hr_ => (k2 _ hr_).1 _ rfl) (fun y_ hy_ => (k2 _ hy_).2 _ rfl)) _ _ _ z4 ?_
  refine ⟨fun r_ e_ => ?_, fun t4x e_ => ?_⟩
  · subst e_
    replace hE := el_inl hE
    exact Option.some.inj hE ▸ rfl
  · subst e_
    replace hE := el_inr hE
    try dsimp only
    obtain rfl := Option.some.inj hE
    exact g_vret C0 hr d_Search_spread_70
theorem m_Search_spread (l : Launch) (K : KT) (ad : Nat → Nat) (h : Hp) (N : Nat) (c0 : Int32) (d0 : Int32) (e0 : Int32) {res : Hp} (hE : K_Search_spread N c0 d0 e0 h = some res) : ConV l y_Search_spread prog_10_method_5_code 8 (Option.none : Option Jvm.ClassFile.FieldType) rm_Search_spread K WSearch ad h [.ref (ad 40), .ref (ad 10), .ref (ad 20), .int c0, .int d0, .int e0] res := fun sz =>
  con_start [(0, .ref (ad 40)), (1, .ref (ad 10)), (2, .ref (ad 20)), (3, .int c0), (4, .int d0), (5, .int e0)] (by decide +kernel) rfl (Nat.le_of_ble_eq_true rfl) (fun p e s m args below meth c C0 hr hnm hsz => w_Search_spread C0 hr N c0 d0 e0 h hE)
abbrev y_Search_tellRow : MethodName := ⟨"CanoeSides$Search", "tellRow", "()V"⟩
abbrev rm_Search_tellRow : Room := { frames := 0, cells := 0, slots := 0, locals := 0 }
theorem cd_Search_tellRow : cwd y_Search_tellRow 0 := by decide +kernel
theorem d_Search_tellRow_0 : decode prog_10_method_7_code 0 = .ok (.aload_n 0, 1) := by decide +kernel
theorem d_Search_tellRow_1 : decode prog_10_method_7_code 1 = .ok (.getfield 25, 3) := by decide +kernel
theorem d_Search_tellRow_4 : decode prog_10_method_7_code 4 = .ok (.istore_n 1, 1) := by decide +kernel
theorem d_Search_tellRow_5 : decode prog_10_method_7_code 5 = .ok (.aload_n 0, 1) := by decide +kernel
theorem d_Search_tellRow_6 : decode prog_10_method_7_code 6 = .ok (.getfield 28, 3) := by decide +kernel
theorem d_Search_tellRow_9 : decode prog_10_method_7_code 9 = .ok (.iconst 1, 1) := by decide +kernel
theorem d_Search_tellRow_10 : decode prog_10_method_7_code 10 = .ok (.isub, 1) := by decide +kernel
theorem d_Search_tellRow_11 : decode prog_10_method_7_code 11 = .ok (.istore_n 2, 1) := by decide +kernel
theorem d_Search_tellRow_12 : decode prog_10_method_7_code 12 = .ok (.iload_n 2, 1) := by decide +kernel
theorem d_Search_tellRow_13 : decode prog_10_method_7_code 13 = .ok (.ifCond .lt 57, 3) := by decide +kernel
theorem d_Search_tellRow_16 : decode prog_10_method_7_code 16 = .ok (.iload_n 2, 1) := by decide +kernel
theorem d_Search_tellRow_17 : decode prog_10_method_7_code 17 = .ok (.aload_n 0, 1) := by decide +kernel
theorem d_Search_tellRow_18 : decode prog_10_method_7_code 18 = .ok (.getfield 18, 3) := by decide +kernel
theorem d_Search_tellRow_21 : decode prog_10_method_7_code 21 = .ok (.arraylength, 1) := by decide +kernel
theorem d_Search_tellRow_22 : decode prog_10_method_7_code 22 = .ok (.if_icmp .ge 48, 3) := by decide +kernel
theorem d_Search_tellRow_25 : decode prog_10_method_7_code 25 = .ok (.iload_n 1, 1) := by decide +kernel
theorem d_Search_tellRow_26 : decode prog_10_method_7_code 26 = .ok (.ifCond .lt 21, 3) := by decide +kernel
theorem d_Search_tellRow_29 : decode prog_10_method_7_code 29 = .ok (.iload_n 1, 1) := by decide +kernel
theorem d_Search_tellRow_30 : decode prog_10_method_7_code 30 = .ok (.aload_n 0, 1) := by decide +kernel
theorem d_Search_tellRow_31 : decode prog_10_method_7_code 31 = .ok (.getfield 9, 3) := by decide +kernel
theorem d_Search_tellRow_34 : decode prog_10_method_7_code 34 = .ok (.arraylength, 1) := by decide +kernel
theorem d_Search_tellRow_35 : decode prog_10_method_7_code 35 = .ok (.if_icmp .ge 12, 3) := by decide +kernel
theorem d_Search_tellRow_38 : decode prog_10_method_7_code 38 = .ok (.aload_n 0, 1) := by decide +kernel
theorem d_Search_tellRow_39 : decode prog_10_method_7_code 39 = .ok (.getfield 9, 3) := by decide +kernel
theorem d_Search_tellRow_42 : decode prog_10_method_7_code 42 = .ok (.iload_n 1, 1) := by decide +kernel
theorem d_Search_tellRow_43 : decode prog_10_method_7_code 43 = .ok (.iaload, 1) := by decide +kernel
theorem d_Search_tellRow_44 : decode prog_10_method_7_code 44 = .ok (.goto 4, 3) := by decide +kernel
theorem d_Search_tellRow_47 : decode prog_10_method_7_code 47 = .ok (.iconst 0, 1) := by decide +kernel
theorem d_Search_tellRow_48 : decode prog_10_method_7_code 48 = .ok (.istore_n 3, 1) := by decide +kernel
theorem d_Search_tellRow_49 : decode prog_10_method_7_code 49 = .ok (.aload_n 0, 1) := by decide +kernel
theorem d_Search_tellRow_50 : decode prog_10_method_7_code 50 = .ok (.getfield 18, 3) := by decide +kernel
theorem d_Search_tellRow_53 : decode prog_10_method_7_code 53 = .ok (.iload_n 2, 1) := by decide +kernel
theorem d_Search_tellRow_54 : decode prog_10_method_7_code 54 = .ok (.iload_n 3, 1) := by decide +kernel
theorem d_Search_tellRow_55 : decode prog_10_method_7_code 55 = .ok (.bipush 16, 2) := by decide +kernel
theorem d_Search_tellRow_57 : decode prog_10_method_7_code 57 = .ok (.irem, 1) := by decide +kernel
theorem d_Search_tellRow_58 : decode prog_10_method_7_code 58 = .ok (.iastore, 1) := by decide +kernel
theorem d_Search_tellRow_59 : decode prog_10_method_7_code 59 = .ok (.iload_n 3, 1) := by decide +kernel
theorem d_Search_tellRow_60 : decode prog_10_method_7_code 60 = .ok (.bipush 16, 2) := by decide +kernel
theorem d_Search_tellRow_62 : decode prog_10_method_7_code 62 = .ok (.idiv, 1) := by decide +kernel
theorem d_Search_tellRow_63 : decode prog_10_method_7_code 63 = .ok (.istore_n 1, 1) := by decide +kernel
theorem d_Search_tellRow_64 : decode prog_10_method_7_code 64 = .ok (.iinc 2 (-1), 3) := by decide +kernel
theorem d_Search_tellRow_67 : decode prog_10_method_7_code 67 = .ok (.goto (-55), 3) := by decide +kernel
theorem d_Search_tellRow_70 : decode prog_10_method_7_code 70 = .ok (.return_, 1) := by decide +kernel
theorem w_Search_tellRow_J48 {p : Program} {l : Launch} {e : Env} {s : State} {m : MethodId} {args : Array Value} {below : List Frame} {meth : Method} {c : Code} {K : KT} {A : Nat → Prop} {Q : State → Prop} (C0 : Cx p s m args meth c prog_10_method_7_code "CanoeSides$Search" 4 K A) (hr : meth.sig.returnType = (Option.none : Option Jvm.ClassFile.FieldType)) {ad : Nat → Nat} (N : Nat) (x2 : Int32) (y0 : Int32) (h : Hp) {x_ : (Int32 × Int32 × Hp) ⊕ (Hp)} (hE : K_Search_tellRow_J48 N x2 y0 h = some x_) (hk1 : ∀ z_, x_ = .inl z_ → G p l e rm_Search_tellRow s m args below meth c K A WSearch 4 0 0 Q 12 [(0, .ref (ad 40)), (1, .int z_.1), (2, .int z_.2.1)] [] ad z_.2.2) (hk3 : ∀ z_, x_ = .inr z_ → G p l e rm_Search_tellRow s m args below meth c K A WSearch 4 0 0 Q 70 [] [] ad z_) : G p l e rm_Search_tellRow s m args below meth c K A WSearch 4 0 0 Q 48 [(0, .ref (ad 40)), (2, .int x2)] [.int y0] ad h := by
  unfold K_Search_tellRow_J48 at hE
  refine g_istore_n C0 [(3, .int y0), (0, .ref (ad 40)), (2, .int x2)] d_Search_tellRow_48 rfl (by decide) rfl ?_
  refine g_aload_n C0 1 d_Search_tellRow_49 rfl rfl ?_
  refine g_getr C0 CK_8 2 (by decide) t_300 0 rfl rfl d_Search_tellRow_50 ?_
  refine g_iload_n C0 2 d_Search_tellRow_53 rfl rfl ?_
  refine g_iload_n C0 0 d_Search_tellRow_54 rfl rfl ?_
  refine g_bipush C0 (v := 16) d_Search_tellRow_55 (by decide) ?_
  refine g_irem C0 d_Search_tellRow_57 (by decide) ?_
  obtain ⟨q58, hE⟩ := sA_some hE
  obtain ⟨h58, e58, hE⟩ := nm_some hE
  refine g_iast C0 3 rfl nd_Search q58 d_Search_tellRow_58 ?_
  refine g_heap e58 ?_
  refine g_iload_n C0 0 d_Search_tellRow_59 rfl rfl ?_
  refine g_bipush C0 (v := 16) d_Search_tellRow_60 (by decide) ?_
  refine g_idiv C0 d_Search_tellRow_62 (by decide) ?_
  obtain ⟨v63, e63, hE⟩ := nm_some hE
  refine g_top e63 ?_
  refine g_istore_n C0 [(1, .int v63), (3, .int y0), (0, .ref (ad 40)), (2, .int x2)] d_Search_tellRow_63 rfl (by decide) rfl ?_
  obtain ⟨v64, e64, hE⟩ := nm_some hE
  refine g_iinc C0 3 [(2, .int v64), (1, .int v63), (3, .int y0), (0, .ref (ad 40))] d_Search_tellRow_64 rfl (by rw [e64]; rfl) (by decide) rfl ?_
  refine g_goto C0 (tgt := 12) d_Search_tellRow_67 (by decide) ?_
  refine g_sub [3, 1, 0] (L' := [(0, .ref (ad 40)), (1, .int v63), (2, .int v64)]) rfl ?_
  exact hk1 _ (Option.some.inj hE).symm
theorem w_Search_tellRow_J47 {p : Program} {l : Launch} {e : Env} {s : State} {m : MethodId} {args : Array Value} {below : List Frame} {meth : Method} {c : Code} {K : KT} {A : Nat → Prop} {Q : State → Prop} (C0 : Cx p s m args meth c prog_10_method_7_code "CanoeSides$Search" 4 K A) (hr : meth.sig.returnType = (Option.none : Option Jvm.ClassFile.FieldType)) {ad : Nat → Nat} (N : Nat) (x2 : Int32) (h : Hp) {x_ : (Int32 × Int32 × Hp) ⊕ (Hp)} (hE : K_Search_tellRow_J47 N x2 h = some x_) (hk1 : ∀ z_, x_ = .inl z_ → G p l e rm_Search_tellRow s m args below meth c K A WSearch 4 0 0 Q 12 [(0, .ref (ad 40)), (1, .int z_.1), (2, .int z_.2.1)] [] ad z_.2.2) (hk3 : ∀ z_, x_ = .inr z_ → G p l e rm_Search_tellRow s m args below meth c K A WSearch 4 0 0 Q 70 [] [] ad z_) : G p l e rm_Search_tellRow s m args below meth c K A WSearch 4 0 0 Q 47 [(0, .ref (ad 40)), (2, .int x2)] [] ad h := by
  unfold K_Search_tellRow_J47 at hE
  refine g_iconst C0 (v := 0) d_Search_tellRow_47 (by decide) ?_
  exact w_Search_tellRow_J48 C0 hr N x2 0 h hE hk1 hk3
theorem w_Search_tellRow_L12 {p : Program} {l : Launch} {e : Env} {s : State} {m : MethodId} {args : Array Value} {below : List Frame} {meth : Method} {c : Code} {K : KT} {A : Nat → Prop} {Q : State → Prop} (C0 : Cx p s m args meth c prog_10_method_7_code "CanoeSides$Search" 4 K A) (hr : meth.sig.returnType = (Option.none : Option Jvm.ClassFile.FieldType)) {ad : Nat → Nat} (N : Nat) (x1 : Int32) (x2 : Int32) (h : Hp) {x_ : (Int32 × Int32 × Hp) ⊕ (Hp)} (hE : K_Search_tellRow_L12 N x1 x2 h = some x_) (hk1 : ∀ z_, x_ = .inl z_ → G p l e rm_Search_tellRow s m args below meth c K A WSearch 4 0 0 Q 12 [(0, .ref (ad 40)), (1, .int z_.1), (2, .int z_.2.1)] [] ad z_.2.2) (hk3 : ∀ z_, x_ = .inr z_ → G p l e rm_Search_tellRow s m args below meth c K A WSearch 4 0 0 Q 70 [] [] ad z_) : G p l e rm_Search_tellRow s m args below meth c K A WSearch 4 0 0 Q 12 [(0, .ref (ad 40)), (1, .int x1), (2, .int x2)] [] ad h := by
  unfold K_Search_tellRow_L12 at hE
  refine g_iload_n C0 2 d_Search_tellRow_12 rfl rfl ?_
  have hB := ite_some hE
  refine g_if_lt C0 (tgt := 70) d_Search_tellRow_13 (by decide) (fun c_ => ?_) (fun c_ => ?_)
  · replace hE := hB.1 c_
    refine g_sub [] (L' := []) rfl ?_
    exact hk3 _ (Option.some.inj hE).symm
  · replace hE := hB.2 c_
    refine g_iload_n C0 2 d_Search_tellRow_16 rfl rfl ?_
    refine g_aload_n C0 0 d_Search_tellRow_17 rfl rfl ?_
    refine g_getr C0 CK_8 2 (by decide) t_300 0 rfl rfl d_Search_tellRow_18 ?_
    refine g_alen C0 3 rfl rfl (v := 60) (by decide) d_Search_tellRow_21 ?_
    have hB := ite_some hE
    refine g_icmp_ge C0 (tgt := 70) d_Search_tellRow_22 (by decide) (fun c_ => ?_) (fun c_ => ?_)
    · replace hE := hB.1 c_
      refine g_sub [] (L' := []) rfl ?_
      exact hk3 _ (Option.some.inj hE).symm
    · replace hE := hB.2 c_
      refine g_iload_n C0 1 d_Search_tellRow_25 rfl rfl ?_
      have hB := ite_some hE
      refine g_if_lt C0 (tgt := 47) d_Search_tellRow_26 (by decide) (fun c_ => ?_) (fun c_ => ?_)
      · replace hE := hB.1 c_
        refine g_sub [0, 2] (L' := [(0, .ref (ad 40)), (2, .int x2)]) rfl ?_
        exact w_Search_tellRow_J47 C0 hr N x2 h hE hk1 hk3
      · replace hE := hB.2 c_
        refine g_iload_n C0 1 d_Search_tellRow_29 rfl rfl ?_
        refine g_aload_n C0 0 d_Search_tellRow_30 rfl rfl ?_
        refine g_getr C0 CK_8 0 (by decide) t_298 0 rfl rfl d_Search_tellRow_31 ?_
        refine g_alen C0 1 rfl rfl (v := 3456) (by decide) d_Search_tellRow_34 ?_
        have hB := ite_some hE
        refine g_icmp_ge C0 (tgt := 47) d_Search_tellRow_35 (by decide) (fun c_ => ?_) (fun c_ => ?_)
        · replace hE := hB.1 c_
          refine g_sub [0, 2] (L' := [(0, .ref (ad 40)), (2, .int x2)]) rfl ?_
          exact w_Search_tellRow_J47 C0 hr N x2 h hE hk1 hk3
        · replace hE := hB.2 c_
          refine g_aload_n C0 0 d_Search_tellRow_38 rfl rfl ?_
          refine g_getr C0 CK_8 0 (by decide) t_298 0 rfl rfl d_Search_tellRow_39 ?_
          refine g_iload_n C0 1 d_Search_tellRow_42 rfl rfl ?_
          obtain ⟨q43, v43, e43, hE⟩ := gA_some hE
          refine g_iald C0 1 rfl q43 d_Search_tellRow_43 ?_
          refine g_top e43 ?_
          refine g_goto C0 (tgt := 48) d_Search_tellRow_44 (by decide) ?_
          refine g_sub [0, 2] (L' := [(0, .ref (ad 40)), (2, .int x2)]) rfl ?_
          exact w_Search_tellRow_J48 C0 hr N x2 v43 h hE hk1 hk3
theorem w_Search_tellRow {p : Program} {l : Launch} {e : Env} {s : State} {m : MethodId} {args : Array Value} {below : List Frame} {meth : Method} {c : Code} {K : KT} {A : Nat → Prop} (C0 : Cx p s m args meth c prog_10_method_7_code "CanoeSides$Search" 4 K A) (hr : meth.sig.returnType = (Option.none : Option Jvm.ClassFile.FieldType)) {ad : Nat → Nat} (N : Nat) (h : Hp) {res : Hp} (hE : K_Search_tellRow N h = some res) : G p l e rm_Search_tellRow s m args below meth c K A WSearch 4 0 0 (QV s args below K A WSearch 0 0 ad res) 0 [(0, .ref (ad 40))] [] ad h := by
  unfold K_Search_tellRow at hE
  refine g_aload_n C0 0 d_Search_tellRow_0 rfl rfl ?_
  refine g_geti C0 CK_8 4 (by decide) t_302 0 rfl rfl d_Search_tellRow_1 ?_
  obtain ⟨v4, e4, hE⟩ := nm_some hE
  refine g_top e4 ?_
  refine g_istore_n C0 [(1, .int v4), (0, .ref (ad 40))] d_Search_tellRow_4 rfl (by decide) rfl ?_
  refine g_aload_n C0 1 d_Search_tellRow_5 rfl rfl ?_
  refine g_geti C0 CK_8 5 (by decide) t_303 0 rfl rfl d_Search_tellRow_6 ?_
  refine g_iconst C0 (v := 1) d_Search_tellRow_9 (by decide) ?_
  refine g_isub C0 d_Search_tellRow_10 ?_
  obtain ⟨v11, e11, hE⟩ := nm_some hE
  refine g_top e11 ?_
  refine g_istore_n C0 [(2, .int v11), (1, .int v4), (0, .ref (ad 40))] d_Search_tellRow_11 rfl (by decide) rfl ?_
  refine g_sub [2, 1, 0] (L' := [(0, .ref (ad 40)), (1, .int v4), (2, .int v11)]) rfl ?_
  obtain ⟨t12, z12, hE⟩ := bd_some hE
  refine loopG (fun z_ : Int32 × Int32 × Hp => K_Search_tellRow_L12 N z_.1 z_.2.1 z_.2.2) (fun z_ : Int32 × Int32 × Hp => G p l e rm_Search_tellRow s m args below meth c K A WSearch 4 0 0 _ 12 [(0, .ref (ad 40)), (1, .int z_.1), (2, .int z_.2.1)] [] ad z_.2.2) (fun z_ : Hp => G p l e rm_Search_tellRow s m args below meth c K A WSearch 4 0 0 _ 70 [] [] ad z_) (fun z_ x_ hz k1 k2 => w_Search_tellRow_L12 C0 hr N z_.1 z_.2.1 z_.2.2 hz k1 k2) _ _ _ z12 ?_
  try dsimp only
  obtain rfl := Option.some.inj hE
  exact g_vret C0 hr d_Search_tellRow_70
theorem m_Search_tellRow (l : Launch) (K : KT) (ad : Nat → Nat) (h : Hp) (N : Nat) {res : Hp} (hE : K_Search_tellRow N h = some res) : ConV l y_Search_tellRow prog_10_method_7_code 4 (Option.none : Option Jvm.ClassFile.FieldType) rm_Search_tellRow K WSearch ad h [.ref (ad 40)] res := fun sz =>
  con_start [(0, .ref (ad 40))] (by decide +kernel) rfl (Nat.le_of_ble_eq_true rfl) (fun p e s m args below meth c C0 hr hnm hsz => w_Search_tellRow C0 hr N h hE)
abbrev y_Search_spreadAll : MethodName := ⟨"CanoeSides$Search", "spreadAll", "(LCanoeSides$River;LCanoeSides$Crew;II)V"⟩
abbrev rm_Search_spreadAll : Room := { frames := 4, cells := 0, slots := 0, locals := 100 }
theorem cd_Search_spreadAll : cwd y_Search_spreadAll 4 := by decide +kernel
theorem d_Search_spreadAll_0 : decode prog_10_method_4_code 0 = .ok (.iconst 0, 1) := by decide +kernel
theorem d_Search_spreadAll_1 : decode prog_10_method_4_code 1 = .ok (.istore 5, 2) := by decide +kernel
theorem d_Search_spreadAll_3 : decode prog_10_method_4_code 3 = .ok (.iconst 1, 1) := by decide +kernel
theorem d_Search_spreadAll_4 : decode prog_10_method_4_code 4 = .ok (.istore 6, 2) := by decide +kernel
theorem d_Search_spreadAll_6 : decode prog_10_method_4_code 6 = .ok (.iload 6, 2) := by decide +kernel
theorem d_Search_spreadAll_8 : decode prog_10_method_4_code 8 = .ok (.bipush 60, 2) := by decide +kernel
theorem d_Search_spreadAll_10 : decode prog_10_method_4_code 10 = .ok (.if_icmp .gt 96, 3) := by decide +kernel
theorem d_Search_spreadAll_13 : decode prog_10_method_4_code 13 = .ok (.aload_n 0, 1) := by decide +kernel
theorem d_Search_spreadAll_14 : decode prog_10_method_4_code 14 = .ok (.getfield 25, 3) := by decide +kernel
theorem d_Search_spreadAll_17 : decode prog_10_method_4_code 17 = .ok (.iconst (-1), 1) := by decide +kernel
theorem d_Search_spreadAll_18 : decode prog_10_method_4_code 18 = .ok (.if_icmp .ne 88, 3) := by decide +kernel
theorem d_Search_spreadAll_21 : decode prog_10_method_4_code 21 = .ok (.aload_n 0, 1) := by decide +kernel
theorem d_Search_spreadAll_22 : decode prog_10_method_4_code 22 = .ok (.getfield 21, 3) := by decide +kernel
theorem d_Search_spreadAll_25 : decode prog_10_method_4_code 25 = .ok (.istore 7, 2) := by decide +kernel
theorem d_Search_spreadAll_27 : decode prog_10_method_4_code 27 = .ok (.iload 5, 2) := by decide +kernel
theorem d_Search_spreadAll_29 : decode prog_10_method_4_code 29 = .ok (.istore 8, 2) := by decide +kernel
theorem d_Search_spreadAll_31 : decode prog_10_method_4_code 31 = .ok (.iload 8, 2) := by decide +kernel
theorem d_Search_spreadAll_33 : decode prog_10_method_4_code 33 = .ok (.iload 7, 2) := by decide +kernel
theorem d_Search_spreadAll_35 : decode prog_10_method_4_code 35 = .ok (.if_icmp .ge 43, 3) := by decide +kernel
theorem d_Search_spreadAll_38 : decode prog_10_method_4_code 38 = .ok (.iload 8, 2) := by decide +kernel
theorem d_Search_spreadAll_40 : decode prog_10_method_4_code 40 = .ok (.aload_n 0, 1) := by decide +kernel
theorem d_Search_spreadAll_41 : decode prog_10_method_4_code 41 = .ok (.getfield 15, 3) := by decide +kernel
theorem d_Search_spreadAll_44 : decode prog_10_method_4_code 44 = .ok (.arraylength, 1) := by decide +kernel
theorem d_Search_spreadAll_45 : decode prog_10_method_4_code 45 = .ok (.if_icmp .ge 33, 3) := by decide +kernel
theorem d_Search_spreadAll_48 : decode prog_10_method_4_code 48 = .ok (.aload_n 0, 1) := by decide +kernel
theorem d_Search_spreadAll_49 : decode prog_10_method_4_code 49 = .ok (.getfield 25, 3) := by decide +kernel
theorem d_Search_spreadAll_52 : decode prog_10_method_4_code 52 = .ok (.iconst (-1), 1) := by decide +kernel
theorem d_Search_spreadAll_53 : decode prog_10_method_4_code 53 = .ok (.if_icmp .ne 25, 3) := by decide +kernel
theorem d_Search_spreadAll_56 : decode prog_10_method_4_code 56 = .ok (.aload_n 0, 1) := by decide +kernel
theorem d_Search_spreadAll_57 : decode prog_10_method_4_code 57 = .ok (.aload_n 1, 1) := by decide +kernel
theorem d_Search_spreadAll_58 : decode prog_10_method_4_code 58 = .ok (.aload_n 2, 1) := by decide +kernel
theorem d_Search_spreadAll_59 : decode prog_10_method_4_code 59 = .ok (.aload_n 0, 1) := by decide +kernel
theorem d_Search_spreadAll_60 : decode prog_10_method_4_code 60 = .ok (.getfield 15, 3) := by decide +kernel
theorem d_Search_spreadAll_63 : decode prog_10_method_4_code 63 = .ok (.iload 8, 2) := by decide +kernel
theorem d_Search_spreadAll_65 : decode prog_10_method_4_code 65 = .ok (.iaload, 1) := by decide +kernel
theorem d_Search_spreadAll_66 : decode prog_10_method_4_code 66 = .ok (.iload_n 3, 1) := by decide +kernel
theorem d_Search_spreadAll_67 : decode prog_10_method_4_code 67 = .ok (.iload 4, 2) := by decide +kernel
theorem d_Search_spreadAll_69 : decode prog_10_method_4_code 69 = .ok (.invokevirtual 57, 3) := by decide +kernel
theorem d_Search_spreadAll_72 : decode prog_10_method_4_code 72 = .ok (.iinc 8 1, 3) := by decide +kernel
theorem d_Search_spreadAll_75 : decode prog_10_method_4_code 75 = .ok (.goto (-44), 3) := by decide +kernel
theorem d_Search_spreadAll_78 : decode prog_10_method_4_code 78 = .ok (.iload 7, 2) := by decide +kernel
theorem d_Search_spreadAll_80 : decode prog_10_method_4_code 80 = .ok (.istore 5, 2) := by decide +kernel
theorem d_Search_spreadAll_82 : decode prog_10_method_4_code 82 = .ok (.aload_n 0, 1) := by decide +kernel
theorem d_Search_spreadAll_83 : decode prog_10_method_4_code 83 = .ok (.getfield 25, 3) := by decide +kernel
theorem d_Search_spreadAll_86 : decode prog_10_method_4_code 86 = .ok (.iconst (-1), 1) := by decide +kernel
theorem d_Search_spreadAll_87 : decode prog_10_method_4_code 87 = .ok (.if_icmp .eq 13, 3) := by decide +kernel
theorem d_Search_spreadAll_90 : decode prog_10_method_4_code 90 = .ok (.aload_n 0, 1) := by decide +kernel
theorem d_Search_spreadAll_91 : decode prog_10_method_4_code 91 = .ok (.iload 6, 2) := by decide +kernel
theorem d_Search_spreadAll_93 : decode prog_10_method_4_code 93 = .ok (.putfield 28, 3) := by decide +kernel
theorem d_Search_spreadAll_96 : decode prog_10_method_4_code 96 = .ok (.aload_n 0, 1) := by decide +kernel
theorem d_Search_spreadAll_97 : decode prog_10_method_4_code 97 = .ok (.invokevirtual 61, 3) := by decide +kernel
theorem d_Search_spreadAll_100 : decode prog_10_method_4_code 100 = .ok (.iinc 6 1, 3) := by decide +kernel
theorem d_Search_spreadAll_103 : decode prog_10_method_4_code 103 = .ok (.goto (-97), 3) := by decide +kernel
theorem d_Search_spreadAll_106 : decode prog_10_method_4_code 106 = .ok (.return_, 1) := by decide +kernel
theorem w_Search_spreadAll_L31 {p : Program} {l : Launch} {e : Env} {s : State} {m : MethodId} {args : Array Value} {below : List Frame} {meth : Method} {c : Code} {K : KT} {A : Nat → Prop} {Q : State → Prop} (C0 : Cx p s m args meth c prog_10_method_4_code "CanoeSides$Search" 9 K A) (hr : meth.sig.returnType = (Option.none : Option Jvm.ClassFile.FieldType)) {ad : Nat → Nat} (N : Nat) (x3 : Int32) (x4 : Int32) (x6 : Int32) (x7 : Int32) (x8 : Int32) (h : Hp) {x_ : (Int32 × Hp) ⊕ (Hp)} (hE : K_Search_spreadAll_L31 N x3 x4 x6 x7 x8 h = some x_) (hk1 : ∀ z_, x_ = .inl z_ → G p l e rm_Search_spreadAll s m args below meth c K A WSearch 9 0 0 Q 31 [(0, .ref (ad 40)), (1, .ref (ad 10)), (2, .ref (ad 20)), (3, .int x3), (4, .int x4), (6, .int x6), (7, .int x7), (8, .int z_.1)] [] ad z_.2) (hk3 : ∀ z_, x_ = .inr z_ → G p l e rm_Search_spreadAll s m args below meth c K A WSearch 9 0 0 Q 78 [(0, .ref (ad 40)), (1, .ref (ad 10)), (2, .ref (ad 20)), (3, .int x3), (4, .int x4), (6, .int x6), (7, .int x7)] [] ad z_) : G p l e rm_Search_spreadAll s m args below meth c K A WSearch 9 0 0 Q 31 [(0, .ref (ad 40)), (1, .ref (ad 10)), (2, .ref (ad 20)), (3, .int x3), (4, .int x4), (6, .int x6), (7, .int x7), (8, .int x8)] [] ad h := by
  unfold K_Search_spreadAll_L31 at hE
  refine g_iload C0 7 d_Search_spreadAll_31 rfl ?_
  refine g_iload C0 6 d_Search_spreadAll_33 rfl ?_
  have hB := ite_some hE
  refine g_icmp_ge C0 (tgt := 78) d_Search_spreadAll_35 (by decide) (fun c_ => ?_) (fun c_ => ?_)
  · replace hE := hB.1 c_
    refine g_sub [0, 1, 2, 3, 4, 5, 6] (L' := [(0, .ref (ad 40)), (1, .ref (ad 10)), (2, .ref (ad 20)), (3, .int x3), (4, .int x4), (6, .int x6), (7, .int x7)]) rfl ?_
    exact hk3 _ (Option.some.inj hE).symm
  · replace hE := hB.2 c_
    refine g_iload C0 7 d_Search_spreadAll_38 rfl ?_
    refine g_aload_n C0 0 d_Search_spreadAll_40 rfl rfl ?_
    refine g_getr C0 CK_8 1 (by decide) t_299 0 rfl rfl d_Search_spreadAll_41 ?_
    refine g_alen C0 2 rfl rfl (v := 3456) (by decide) d_Search_spreadAll_44 ?_
    have hB := ite_some hE
    refine g_icmp_ge C0 (tgt := 78) d_Search_spreadAll_45 (by decide) (fun c_ => ?_) (fun c_ => ?_)
    · replace hE := hB.1 c_
      refine g_sub [0, 1, 2, 3, 4, 5, 6] (L' := [(0, .ref (ad 40)), (1, .ref (ad 10)), (2, .ref (ad 20)), (3, .int x3), (4, .int x4), (6, .int x6), (7, .int x7)]) rfl ?_
      exact hk3 _ (Option.some.inj hE).symm
    · replace hE := hB.2 c_
      refine g_aload_n C0 0 d_Search_spreadAll_48 rfl rfl ?_
      refine g_geti C0 CK_8 4 (by decide) t_302 0 rfl rfl d_Search_spreadAll_49 ?_
      refine g_iconst C0 (v := (-1)) d_Search_spreadAll_52 (by decide) ?_
      have hB := ite_some hE
      refine g_icmp_ne C0 (tgt := 78) d_Search_spreadAll_53 (by decide) (fun c_ => ?_) (fun c_ => ?_)
      · replace hE := hB.2 c_
        refine g_sub [0, 1, 2, 3, 4, 5, 6] (L' := [(0, .ref (ad 40)), (1, .ref (ad 10)), (2, .ref (ad 20)), (3, .int x3), (4, .int x4), (6, .int x6), (7, .int x7)]) rfl ?_
        exact hk3 _ (Option.some.inj hE).symm
      · replace hE := hB.1 c_
        refine g_aload_n C0 0 d_Search_spreadAll_56 rfl rfl ?_
        refine g_aload_n C0 1 d_Search_spreadAll_57 rfl rfl ?_
        refine g_aload_n C0 2 d_Search_spreadAll_58 rfl rfl ?_
        refine g_aload_n C0 0 d_Search_spreadAll_59 rfl rfl ?_
        refine g_getr C0 CK_8 1 (by decide) t_299 0 rfl rfl d_Search_spreadAll_60 ?_
        refine g_iload C0 7 d_Search_spreadAll_63 rfl ?_
        obtain ⟨q65, v65, e65, hE⟩ := gA_some hE
        refine g_iald C0 2 rfl q65 d_Search_spreadAll_65 ?_
        refine g_top e65 ?_
        refine g_iload_n C0 3 d_Search_spreadAll_66 rfl rfl ?_
        refine g_iload C0 4 d_Search_spreadAll_67 rfl ?_
        obtain ⟨h69, z69, hE⟩ := bd_some hE
        refine g_callv C0 nd_Search [40, 41, 42, 43, 10, 11, 12, 20, 21, 22, 15, 16, 17] rfl (sbW_self WSearch) (runV C0 (m_Search_spread l K ad h N v65 x3 x4 z69) 5 rfl ⟨t_855, t_857, t_23, t_93, t_858⟩ cd_Search_spread (by decide) 0 rfl rfl (sbW_self WSearch) nd_Search rfl rfl (Nat.le_of_ble_eq_true rfl) d_Search_spreadAll_69) ?_
        refine g_mx [40, 41, 42, 43, 10, 11, 12, 20, 21, 22, 15, 16, 17] rfl ?_
        obtain ⟨v72, e72, hE⟩ := nm_some hE
        refine g_iinc C0 7 [(8, .int v72), (0, .ref (ad 40)), (1, .ref (ad 10)), (2, .ref (ad 20)), (3, .int x3), (4, .int x4), (6, .int x6), (7, .int x7)] d_Search_spreadAll_72 rfl (by rw [e72]; rfl) (by decide) rfl ?_
        refine g_goto C0 (tgt := 31) d_Search_spreadAll_75 (by decide) ?_
        refine g_sub [1, 2, 3, 4, 5, 6, 7, 0] (L' := [(0, .ref (ad 40)), (1, .ref (ad 10)), (2, .ref (ad 20)), (3, .int x3), (4, .int x4), (6, .int x6), (7, .int x7), (8, .int v72)]) rfl ?_
        exact hk1 _ (Option.some.inj hE).symm
theorem w_Search_spreadAll_J78 {p : Program} {l : Launch} {e : Env} {s : State} {m : MethodId} {args : Array Value} {below : List Frame} {meth : Method} {c : Code} {K : KT} {A : Nat → Prop} {Q : State → Prop} (C0 : Cx p s m args meth c prog_10_method_4_code "CanoeSides$Search" 9 K A) (hr : meth.sig.returnType = (Option.none : Option Jvm.ClassFile.FieldType)) {ad : Nat → Nat} (N : Nat) (x3 : Int32) (x4 : Int32) (x6 : Int32) (x7 : Int32) (h : Hp) {x_ : (Int32 × Int32 × Hp) ⊕ (Hp)} (hE : K_Search_spreadAll_J78 N x3 x4 x6 x7 h = some x_) (hk1 : ∀ z_, x_ = .inl z_ → G p l e rm_Search_spreadAll s m args below meth c K A WSearch 9 0 0 Q 6 [(0, .ref (ad 40)), (1, .ref (ad 10)), (2, .ref (ad 20)), (3, .int x3), (4, .int x4), (5, .int z_.1), (6, .int z_.2.1)] [] ad z_.2.2) (hk3 : ∀ z_, x_ = .inr z_ → G p l e rm_Search_spreadAll s m args below meth c K A WSearch 9 0 0 Q 106 [] [] ad z_) : G p l e rm_Search_spreadAll s m args below meth c K A WSearch 9 0 0 Q 78 [(0, .ref (ad 40)), (1, .ref (ad 10)), (2, .ref (ad 20)), (3, .int x3), (4, .int x4), (6, .int x6), (7, .int x7)] [] ad h := by
  unfold K_Search_spreadAll_J78 at hE
  refine g_iload C0 6 d_Search_spreadAll_78 rfl ?_
  refine g_istore C0 [(5, .int x7), (0, .ref (ad 40)), (1, .ref (ad 10)), (2, .ref (ad 20)), (3, .int x3), (4, .int x4), (6, .int x6), (7, .int x7)] d_Search_spreadAll_80 (by decide) rfl ?_
  refine g_aload_n C0 1 d_Search_spreadAll_82 rfl rfl ?_
  refine g_geti C0 CK_8 4 (by decide) t_302 0 rfl rfl d_Search_spreadAll_83 ?_
  refine g_iconst C0 (v := (-1)) d_Search_spreadAll_86 (by decide) ?_
  have hB := ite_some hE
  refine g_icmp_eq C0 (tgt := 100) d_Search_spreadAll_87 (by decide) (fun c_ => ?_) (fun c_ => ?_)
  · replace hE := hB.1 c_
    obtain ⟨v100, e100, hE⟩ := nm_some hE
    refine g_iinc C0 6 [(6, .int v100), (5, .int x7), (0, .ref (ad 40)), (1, .ref (ad 10)), (2, .ref (ad 20)), (3, .int x3), (4, .int x4), (7, .int x7)] d_Search_spreadAll_100 rfl (by rw [e100]; rfl) (by decide) rfl ?_
    refine g_goto C0 (tgt := 6) d_Search_spreadAll_103 (by decide) ?_
    refine g_sub [2, 3, 4, 5, 6, 1, 0] (L' := [(0, .ref (ad 40)), (1, .ref (ad 10)), (2, .ref (ad 20)), (3, .int x3), (4, .int x4), (5, .int x7), (6, .int v100)]) rfl ?_
    exact hk1 _ (Option.some.inj hE).symm
  · replace hE := hB.2 c_
    refine g_aload_n C0 1 d_Search_spreadAll_90 rfl rfl ?_
    refine g_iload C0 6 d_Search_spreadAll_91 rfl ?_
    obtain ⟨h93, e93, hE⟩ := nm_some hE
    refine g_puti C0 CK_8 CT_8 5 (by decide) t_303 rfl (by decide +kernel) nd_Search 0 rfl rfl d_Search_spreadAll_93 ?_
    refine g_heap e93 ?_
    refine g_aload_n C0 1 d_Search_spreadAll_96 rfl rfl ?_
    obtain ⟨h97, z97, hE⟩ := bd_some hE
    refine g_callv C0 nd_Search [40, 41, 42, 43, 10, 11, 12, 20, 21, 22, 15, 16, 17] rfl (sbW_self WSearch) (runV C0 (m_Search_tellRow l K ad h93 N z97) 0 rfl ⟨t_861, t_863, t_24, t_93, t_864⟩ cd_Search_tellRow (by decide) 0 rfl rfl (sbW_self WSearch) nd_Search rfl rfl (Nat.le_of_ble_eq_true rfl) d_Search_spreadAll_97) ?_
    refine g_mx [40, 41, 42, 43, 10, 11, 12, 20, 21, 22, 15, 16, 17] rfl ?_
    obtain ⟨v100, e100, hE⟩ := nm_some hE
    refine g_iinc C0 6 [(6, .int v100), (5, .int x7), (0, .ref (ad 40)), (1, .ref (ad 10)), (2, .ref (ad 20)), (3, .int x3), (4, .int x4), (7, .int x7)] d_Search_spreadAll_100 rfl (by rw [e100]; rfl) (by decide) rfl ?_
    refine g_goto C0 (tgt := 6) d_Search_spreadAll_103 (by decide) ?_
    refine g_sub [2, 3, 4, 5, 6, 1, 0] (L' := [(0, .ref (ad 40)), (1, .ref (ad 10)), (2, .ref (ad 20)), (3, .int x3), (4, .int x4), (5, .int x7), (6, .int v100)]) rfl ?_
    exact hk1 _ (Option.some.inj hE).symm
theorem w_Search_spreadAll_L6 {p : Program} {l : Launch} {e : Env} {s : State} {m : MethodId} {args : Array Value} {below : List Frame} {meth : Method} {c : Code} {K : KT} {A : Nat → Prop} {Q : State → Prop} (C0 : Cx p s m args meth c prog_10_method_4_code "CanoeSides$Search" 9 K A) (hr : meth.sig.returnType = (Option.none : Option Jvm.ClassFile.FieldType)) {ad : Nat → Nat} (N : Nat) (x3 : Int32) (x4 : Int32) (x5 : Int32) (x6 : Int32) (h : Hp) {x_ : (Int32 × Int32 × Hp) ⊕ (Hp)} (hE : K_Search_spreadAll_L6 N x3 x4 x5 x6 h = some x_) (hk1 : ∀ z_, x_ = .inl z_ → G p l e rm_Search_spreadAll s m args below meth c K A WSearch 9 0 0 Q 6 [(0, .ref (ad 40)), (1, .ref (ad 10)), (2, .ref (ad 20)), (3, .int x3), (4, .int x4), (5, .int z_.1), (6, .int z_.2.1)] [] ad z_.2.2) (hk3 : ∀ z_, x_ = .inr z_ → G p l e rm_Search_spreadAll s m args below meth c K A WSearch 9 0 0 Q 106 [] [] ad z_) : G p l e rm_Search_spreadAll s m args below meth c K A WSearch 9 0 0 Q 6 [(0, .ref (ad 40)), (1, .ref (ad 10)), (2, .ref (ad 20)), (3, .int x3), (4, .int x4), (5, .int x5), (6, .int x6)] [] ad h := by
  unfold K_Search_spreadAll_L6 at hE
  refine g_iload C0 6 d_Search_spreadAll_6 rfl ?_
  refine g_bipush C0 (v := 60) d_Search_spreadAll_8 (by decide) ?_
  have hB := ite_some hE
  refine g_icmp_gt C0 (tgt := 106) d_Search_spreadAll_10 (by decide) (fun c_ => ?_) (fun c_ => ?_)
  · replace hE := hB.1 c_
    refine g_sub [] (L' := []) rfl ?_
    exact hk3 _ (Option.some.inj hE).symm
  · replace hE := hB.2 c_
    refine g_aload_n C0 0 d_Search_spreadAll_13 rfl rfl ?_
    refine g_geti C0 CK_8 4 (by decide) t_302 0 rfl rfl d_Search_spreadAll_14 ?_
    refine g_iconst C0 (v := (-1)) d_Search_spreadAll_17 (by decide) ?_
    have hB := ite_some hE
    refine g_icmp_ne C0 (tgt := 106) d_Search_spreadAll_18 (by decide) (fun c_ => ?_) (fun c_ => ?_)
    · replace hE := hB.2 c_
      refine g_sub [] (L' := []) rfl ?_
      exact hk3 _ (Option.some.inj hE).symm
    · replace hE := hB.1 c_
      refine g_aload_n C0 0 d_Search_spreadAll_21 rfl rfl ?_
      refine g_geti C0 CK_8 3 (by decide) t_301 0 rfl rfl d_Search_spreadAll_22 ?_
      obtain ⟨v25, e25, hE⟩ := nm_some hE
      refine g_top e25 ?_
      refine g_istore C0 [(7, .int v25), (0, .ref (ad 40)), (1, .ref (ad 10)), (2, .ref (ad 20)), (3, .int x3), (4, .int x4), (5, .int x5), (6, .int x6)] d_Search_spreadAll_25 (by decide) rfl ?_
      refine g_iload C0 6 d_Search_spreadAll_27 rfl ?_
      refine g_istore C0 [(8, .int x5), (7, .int v25), (0, .ref (ad 40)), (1, .ref (ad 10)), (2, .ref (ad 20)), (3, .int x3), (4, .int x4), (5, .int x5), (6, .int x6)] d_Search_spreadAll_29 (by decide) rfl ?_
      refine g_sub [2, 3, 4, 5, 6, 8, 1, 0] (L' := [(0, .ref (ad 40)), (1, .ref (ad 10)), (2, .ref (ad 20)), (3, .int x3), (4, .int x4), (6, .int x6), (7, .int v25), (8, .int x5)]) rfl ?_
      obtain ⟨t31, z31, hE⟩ := bd_some hE
      refine loopG (fun z_ : Int32 × Hp => K_Search_spreadAll_L31 N x3 x4 x6 v25 z_.1 z_.2) (fun z_ : Int32 × Hp => G p l e rm_Search_spreadAll s m args below meth c K A WSearch 9 0 0 _ 31 [(0, .ref (ad 40)), (1, .ref (ad 10)), (2, .ref (ad 20)), (3, .int x3), (4, .int x4), (6, .int x6), (7, .int v25), (8, .int z_.1)] [] ad z_.2) (fun z_ : Hp => G p l e rm_Search_spreadAll s m args below meth c K A WSearch 9 0 0 _ 78 [(0, .ref (ad 40)), (1, .ref (ad 10)), (2, .ref (ad 20)), (3, .int x3), (4, .int x4), (6, .int x6), (7, .int v25)] [] ad z_) (fun z_ x_ hz k1 k2 => w_Search_spreadAll_L31 C0 hr N x3 x4 x6 v25 z_.1 z_.2 hz k1 k2) _ _ _ z31 ?_
      try dsimp only
      exact w_Search_spreadAll_J78 C0 hr N x3 x4 x6 v25 t31 hE hk1 hk3
theorem w_Search_spreadAll {p : Program} {l : Launch} {e : Env} {s : State} {m : MethodId} {args : Array Value} {below : List Frame} {meth : Method} {c : Code} {K : KT} {A : Nat → Prop} (C0 : Cx p s m args meth c prog_10_method_4_code "CanoeSides$Search" 9 K A) (hr : meth.sig.returnType = (Option.none : Option Jvm.ClassFile.FieldType)) {ad : Nat → Nat} (N : Nat) (c0 : Int32) (d0 : Int32) (h : Hp) {res : Hp} (hE : K_Search_spreadAll N c0 d0 h = some res) : G p l e rm_Search_spreadAll s m args below meth c K A WSearch 9 0 0 (QV s args below K A WSearch 0 0 ad res) 0 [(0, .ref (ad 40)), (1, .ref (ad 10)), (2, .ref (ad 20)), (3, .int c0), (4, .int d0)] [] ad h := by
  unfold K_Search_spreadAll at hE
  refine g_iconst C0 (v := 0) d_Search_spreadAll_0 (by decide) ?_
  refine g_istore C0 [(5, .int 0), (0, .ref (ad 40)), (1, .ref (ad 10)), (2, .ref (ad 20)), (3, .int c0), (4, .int d0)] d_Search_spreadAll_1 (by decide) rfl ?_
  refine g_iconst C0 (v := 1) d_Search_spreadAll_3 (by decide) ?_
  refine g_istore C0 [(6, .int 1), (5, .int 0), (0, .ref (ad 40)), (1, .ref (ad 10)), (2, .ref (ad 20)), (3, .int c0), (4, .int d0)] d_Search_spreadAll_4 (by decide) rfl ?_
  refine g_sub [2, 3, 4, 5, 6, 1, 0] (L' := [(0, .ref (ad 40)), (1, .ref (ad 10)), (2, .ref (ad 20)), (3, .int c0), (4, .int d0), (5, .int 0), (6, .int 1)]) rfl ?_
  obtain ⟨t6, z6, hE⟩ := bd_some hE
  refine loopG (fun z_ : Int32 × Int32 × Hp => K_Search_spreadAll_L6 N c0 d0 z_.1 z_.2.1 z_.2.2) (fun z_ : Int32 × Int32 × Hp => G p l e rm_Search_spreadAll s m args below meth c K A WSearch 9 0 0 _ 6 [(0, .ref (ad 40)), (1, .ref (ad 10)), (2, .ref (ad 20)), (3, .int c0), (4, .int d0), (5, .int z_.1), (6, .int z_.2.1)] [] ad z_.2.2) (fun z_ : Hp => G p l e rm_Search_spreadAll s m args below meth c K A WSearch 9 0 0 _ 106 [] [] ad z_) (fun z_ x_ hz k1 k2 => w_Search_spreadAll_L6 C0 hr N c0 d0 z_.1 z_.2.1 z_.2.2 hz k1 k2) _ _ _ z6 ?_
  try dsimp only
  obtain rfl := Option.some.inj hE
  exact g_vret C0 hr d_Search_spreadAll_106
theorem m_Search_spreadAll (l : Launch) (K : KT) (ad : Nat → Nat) (h : Hp) (N : Nat) (c0 : Int32) (d0 : Int32) {res : Hp} (hE : K_Search_spreadAll N c0 d0 h = some res) : ConV l y_Search_spreadAll prog_10_method_4_code 9 (Option.none : Option Jvm.ClassFile.FieldType) rm_Search_spreadAll K WSearch ad h [.ref (ad 40), .ref (ad 10), .ref (ad 20), .int c0, .int d0] res := fun sz =>
  con_start [(0, .ref (ad 40)), (1, .ref (ad 10)), (2, .ref (ad 20)), (3, .int c0), (4, .int d0)] (by decide +kernel) rfl (Nat.le_of_ble_eq_true rfl) (fun p e s m args below meth c C0 hr hnm hsz => w_Search_spreadAll C0 hr N c0 d0 h hE)
abbrev y_Search_look : MethodName := ⟨"CanoeSides$Search", "look", "(LCanoeSides$River;LCanoeSides$Crew;II)V"⟩
abbrev rm_Search_look : Room := { frames := 5, cells := 0, slots := 0, locals := 128 }
theorem cd_Search_look : cwd y_Search_look 4 := by decide +kernel
theorem d_Search_look_0 : decode prog_10_method_3_code 0 = .ok (.iload_n 3, 1) := by decide +kernel
theorem d_Search_look_1 : decode prog_10_method_3_code 1 = .ok (.bipush 11, 2) := by decide +kernel
theorem d_Search_look_3 : decode prog_10_method_3_code 3 = .ok (.imul, 1) := by decide +kernel
theorem d_Search_look_4 : decode prog_10_method_3_code 4 = .ok (.iload 4, 2) := by decide +kernel
theorem d_Search_look_6 : decode prog_10_method_3_code 6 = .ok (.iadd, 1) := by decide +kernel
theorem d_Search_look_7 : decode prog_10_method_3_code 7 = .ok (.istore 5, 2) := by decide +kernel
theorem d_Search_look_9 : decode prog_10_method_3_code 9 = .ok (.iload 5, 2) := by decide +kernel
theorem d_Search_look_11 : decode prog_10_method_3_code 11 = .ok (.aload_n 0, 1) := by decide +kernel
theorem d_Search_look_12 : decode prog_10_method_3_code 12 = .ok (.getfield 31, 3) := by decide +kernel
theorem d_Search_look_15 : decode prog_10_method_3_code 15 = .ok (.if_icmp .ne 4, 3) := by decide +kernel
theorem d_Search_look_18 : decode prog_10_method_3_code 18 = .ok (.return_, 1) := by decide +kernel
theorem d_Search_look_19 : decode prog_10_method_3_code 19 = .ok (.aload_n 0, 1) := by decide +kernel
theorem d_Search_look_20 : decode prog_10_method_3_code 20 = .ok (.iload 5, 2) := by decide +kernel
theorem d_Search_look_22 : decode prog_10_method_3_code 22 = .ok (.putfield 31, 3) := by decide +kernel
theorem d_Search_look_25 : decode prog_10_method_3_code 25 = .ok (.aload_n 0, 1) := by decide +kernel
theorem d_Search_look_26 : decode prog_10_method_3_code 26 = .ok (.iconst (-1), 1) := by decide +kernel
theorem d_Search_look_27 : decode prog_10_method_3_code 27 = .ok (.putfield 28, 3) := by decide +kernel
theorem d_Search_look_30 : decode prog_10_method_3_code 30 = .ok (.aload_n 0, 1) := by decide +kernel
theorem d_Search_look_31 : decode prog_10_method_3_code 31 = .ok (.iconst (-1), 1) := by decide +kernel
theorem d_Search_look_32 : decode prog_10_method_3_code 32 = .ok (.putfield 25, 3) := by decide +kernel
theorem d_Search_look_35 : decode prog_10_method_3_code 35 = .ok (.aload_n 1, 1) := by decide +kernel
theorem d_Search_look_36 : decode prog_10_method_3_code 36 = .ok (.getfield 34, 3) := by decide +kernel
theorem d_Search_look_39 : decode prog_10_method_3_code 39 = .ok (.iconst (-1), 1) := by decide +kernel
theorem d_Search_look_40 : decode prog_10_method_3_code 40 = .ok (.if_icmp .ne 4, 3) := by decide +kernel
theorem d_Search_look_43 : decode prog_10_method_3_code 43 = .ok (.return_, 1) := by decide +kernel
theorem d_Search_look_44 : decode prog_10_method_3_code 44 = .ok (.aload_n 1, 1) := by decide +kernel
theorem d_Search_look_45 : decode prog_10_method_3_code 45 = .ok (.iload_n 3, 1) := by decide +kernel
theorem d_Search_look_46 : decode prog_10_method_3_code 46 = .ok (.sipush 384, 3) := by decide +kernel
theorem d_Search_look_49 : decode prog_10_method_3_code 49 = .ok (.irem, 1) := by decide +kernel
theorem d_Search_look_50 : decode prog_10_method_3_code 50 = .ok (.invokevirtual 39, 3) := by decide +kernel
theorem d_Search_look_53 : decode prog_10_method_3_code 53 = .ok (.ifCond .eq 9, 3) := by decide +kernel
theorem d_Search_look_56 : decode prog_10_method_3_code 56 = .ok (.aload_n 0, 1) := by decide +kernel
theorem d_Search_look_57 : decode prog_10_method_3_code 57 = .ok (.iconst 0, 1) := by decide +kernel
theorem d_Search_look_58 : decode prog_10_method_3_code 58 = .ok (.putfield 28, 3) := by decide +kernel
theorem d_Search_look_61 : decode prog_10_method_3_code 61 = .ok (.return_, 1) := by decide +kernel
theorem d_Search_look_62 : decode prog_10_method_3_code 62 = .ok (.aload_n 0, 1) := by decide +kernel
theorem d_Search_look_63 : decode prog_10_method_3_code 63 = .ok (.getfield 9, 3) := by decide +kernel
theorem d_Search_look_66 : decode prog_10_method_3_code 66 = .ok (.iconst (-1), 1) := by decide +kernel
theorem d_Search_look_67 : decode prog_10_method_3_code 67 = .ok (.invokestatic 43, 3) := by decide +kernel
theorem d_Search_look_70 : decode prog_10_method_3_code 70 = .ok (.aload_n 0, 1) := by decide +kernel
theorem d_Search_look_71 : decode prog_10_method_3_code 71 = .ok (.iconst 0, 1) := by decide +kernel
theorem d_Search_look_72 : decode prog_10_method_3_code 72 = .ok (.putfield 21, 3) := by decide +kernel
theorem d_Search_look_75 : decode prog_10_method_3_code 75 = .ok (.aload_n 0, 1) := by decide +kernel
theorem d_Search_look_76 : decode prog_10_method_3_code 76 = .ok (.iload_n 3, 1) := by decide +kernel
theorem d_Search_look_77 : decode prog_10_method_3_code 77 = .ok (.iload_n 3, 1) := by decide +kernel
theorem d_Search_look_78 : decode prog_10_method_3_code 78 = .ok (.bipush 16, 2) := by decide +kernel
theorem d_Search_look_80 : decode prog_10_method_3_code 80 = .ok (.imul, 1) := by decide +kernel
theorem d_Search_look_81 : decode prog_10_method_3_code 81 = .ok (.invokevirtual 49, 3) := by decide +kernel
theorem d_Search_look_84 : decode prog_10_method_3_code 84 = .ok (.pop, 1) := by decide +kernel
theorem d_Search_look_85 : decode prog_10_method_3_code 85 = .ok (.aload_n 0, 1) := by decide +kernel
theorem d_Search_look_86 : decode prog_10_method_3_code 86 = .ok (.aload_n 1, 1) := by decide +kernel
theorem d_Search_look_87 : decode prog_10_method_3_code 87 = .ok (.aload_n 2, 1) := by decide +kernel
theorem d_Search_look_88 : decode prog_10_method_3_code 88 = .ok (.iload 4, 2) := by decide +kernel
theorem d_Search_look_90 : decode prog_10_method_3_code 90 = .ok (.bipush 10, 2) := by decide +kernel
theorem d_Search_look_92 : decode prog_10_method_3_code 92 = .ok (.if_icmp .ne 7, 3) := by decide +kernel
theorem d_Search_look_95 : decode prog_10_method_3_code 95 = .ok (.iconst 3, 1) := by decide +kernel
theorem d_Search_look_96 : decode prog_10_method_3_code 96 = .ok (.goto 4, 3) := by decide +kernel
theorem d_Search_look_99 : decode prog_10_method_3_code 99 = .ok (.iconst 0, 1) := by decide +kernel
theorem d_Search_look_100 : decode prog_10_method_3_code 100 = .ok (.iload 4, 2) := by decide +kernel
theorem d_Search_look_102 : decode prog_10_method_3_code 102 = .ok (.bipush 10, 2) := by decide +kernel
theorem d_Search_look_104 : decode prog_10_method_3_code 104 = .ok (.if_icmp .ne 7, 3) := by decide +kernel
theorem d_Search_look_107 : decode prog_10_method_3_code 107 = .ok (.iconst 4, 1) := by decide +kernel
theorem d_Search_look_108 : decode prog_10_method_3_code 108 = .ok (.goto 4, 3) := by decide +kernel
theorem d_Search_look_111 : decode prog_10_method_3_code 111 = .ok (.iconst 1, 1) := by decide +kernel
theorem d_Search_look_112 : decode prog_10_method_3_code 112 = .ok (.invokevirtual 53, 3) := by decide +kernel
theorem d_Search_look_115 : decode prog_10_method_3_code 115 = .ok (.return_, 1) := by decide +kernel
theorem w_Search_look_J112 {p : Program} {l : Launch} {e : Env} {s : State} {m : MethodId} {args : Array Value} {below : List Frame} {meth : Method} {c : Code} {K : KT} {A : Nat → Prop} (C0 : Cx p s m args meth c prog_10_method_3_code "CanoeSides$Search" 6 K A) (hr : meth.sig.returnType = (Option.none : Option Jvm.ClassFile.FieldType)) {ad : Nat → Nat} (N : Nat) (y3 : Int32) (y4 : Int32) (h : Hp) {res : Hp} (hE : K_Search_look_J112 N y3 y4 h = some res) : G p l e rm_Search_look s m args below meth c K A WSearch 6 0 0 (QV s args below K A WSearch 0 0 ad res) 112 [] [.int y4, .int y3, .ref (ad 20), .ref (ad 10), .ref (ad 40)] ad h := by
  unfold K_Search_look_J112 at hE
  obtain ⟨h112, z112, hE⟩ := bd_some hE
  refine g_callv C0 nd_Search [40, 41, 42, 43, 10, 11, 12, 20, 21, 22, 15, 16, 17] rfl (sbW_self WSearch) (runV C0 (m_Search_spreadAll l K ad h N y3 y4 z112) 4 rfl ⟨t_851, t_853, t_22, t_93, t_854⟩ cd_Search_spreadAll (by decide) 0 rfl rfl (sbW_self WSearch) nd_Search rfl rfl (Nat.le_of_ble_eq_true rfl) d_Search_look_112) ?_
  refine g_mx [40, 41, 42, 43, 10, 11, 12, 20, 21, 22, 15, 16, 17] rfl ?_
  obtain rfl := Option.some.inj hE
  exact g_vret C0 hr d_Search_look_115
theorem w_Search_look_J100 {p : Program} {l : Launch} {e : Env} {s : State} {m : MethodId} {args : Array Value} {below : List Frame} {meth : Method} {c : Code} {K : KT} {A : Nat → Prop} (C0 : Cx p s m args meth c prog_10_method_3_code "CanoeSides$Search" 6 K A) (hr : meth.sig.returnType = (Option.none : Option Jvm.ClassFile.FieldType)) {ad : Nat → Nat} (N : Nat) (x4 : Int32) (y3 : Int32) (h : Hp) {res : Hp} (hE : K_Search_look_J100 N x4 y3 h = some res) : G p l e rm_Search_look s m args below meth c K A WSearch 6 0 0 (QV s args below K A WSearch 0 0 ad res) 100 [(4, .int x4)] [.int y3, .ref (ad 20), .ref (ad 10), .ref (ad 40)] ad h := by
  unfold K_Search_look_J100 at hE
  refine g_iload C0 0 d_Search_look_100 rfl ?_
  refine g_bipush C0 (v := 10) d_Search_look_102 (by decide) ?_
  have hB := ite_some hE
  refine g_icmp_ne C0 (tgt := 111) d_Search_look_104 (by decide) (fun c_ => ?_) (fun c_ => ?_)
  · replace hE := hB.2 c_
    refine g_iconst C0 (v := 1) d_Search_look_111 (by decide) ?_
    refine g_sub [] (L' := []) rfl ?_
    exact w_Search_look_J112 C0 hr N y3 1 h hE
  · replace hE := hB.1 c_
    refine g_iconst C0 (v := 4) d_Search_look_107 (by decide) ?_
    refine g_goto C0 (tgt := 112) d_Search_look_108 (by decide) ?_
    refine g_sub [] (L' := []) rfl ?_
    exact w_Search_look_J112 C0 hr N y3 4 h hE
theorem w_Search_look {p : Program} {l : Launch} {e : Env} {s : State} {m : MethodId} {args : Array Value} {below : List Frame} {meth : Method} {c : Code} {K : KT} {A : Nat → Prop} (C0 : Cx p s m args meth c prog_10_method_3_code "CanoeSides$Search" 6 K A) (hr : meth.sig.returnType = (Option.none : Option Jvm.ClassFile.FieldType)) {ad : Nat → Nat} (N : Nat) (c0 : Int32) (d0 : Int32) (h : Hp) {res : Hp} (hE : K_Search_look N c0 d0 h = some res) : G p l e rm_Search_look s m args below meth c K A WSearch 6 0 0 (QV s args below K A WSearch 0 0 ad res) 0 [(0, .ref (ad 40)), (1, .ref (ad 10)), (2, .ref (ad 20)), (3, .int c0), (4, .int d0)] [] ad h := by
  unfold K_Search_look at hE
  refine g_iload_n C0 3 d_Search_look_0 rfl rfl ?_
  refine g_bipush C0 (v := 11) d_Search_look_1 (by decide) ?_
  refine g_imul C0 d_Search_look_3 ?_
  refine g_iload C0 4 d_Search_look_4 rfl ?_
  refine g_iadd C0 d_Search_look_6 ?_
  obtain ⟨v7, e7, hE⟩ := nm_some hE
  refine g_top e7 ?_
  refine g_istore C0 [(5, .int v7), (0, .ref (ad 40)), (1, .ref (ad 10)), (2, .ref (ad 20)), (3, .int c0), (4, .int d0)] d_Search_look_7 (by decide) rfl ?_
  refine g_iload C0 0 d_Search_look_9 rfl ?_
  refine g_aload_n C0 1 d_Search_look_11 rfl rfl ?_
  refine g_geti C0 CK_8 6 (by decide) t_305 0 rfl rfl d_Search_look_12 ?_
  have hB := ite_some hE
  refine g_icmp_ne C0 (tgt := 19) d_Search_look_15 (by decide) (fun c_ => ?_) (fun c_ => ?_)
  · replace hE := hB.2 c_
    refine g_aload_n C0 1 d_Search_look_19 rfl rfl ?_
    refine g_iload C0 0 d_Search_look_20 rfl ?_
    obtain ⟨h22, e22, hE⟩ := nm_some hE
    refine g_puti C0 CK_8 CT_8 6 (by decide) t_305 rfl (by decide +kernel) nd_Search 0 rfl rfl d_Search_look_22 ?_
    refine g_heap e22 ?_
    refine g_aload_n C0 1 d_Search_look_25 rfl rfl ?_
    refine g_iconst C0 (v := (-1)) d_Search_look_26 (by decide) ?_
    obtain ⟨h27, e27, hE⟩ := nm_some hE
    refine g_puti C0 CK_8 CT_8 5 (by decide) t_303 rfl (by decide +kernel) nd_Search 0 rfl rfl d_Search_look_27 ?_
    refine g_heap e27 ?_
    refine g_aload_n C0 1 d_Search_look_30 rfl rfl ?_
    refine g_iconst C0 (v := (-1)) d_Search_look_31 (by decide) ?_
    obtain ⟨h32, e32, hE⟩ := nm_some hE
    refine g_puti C0 CK_8 CT_8 4 (by decide) t_302 rfl (by decide +kernel) nd_Search 0 rfl rfl d_Search_look_32 ?_
    refine g_heap e32 ?_
    refine g_aload_n C0 2 d_Search_look_35 rfl rfl ?_
    refine g_getiN C0 CK_7 8 (by decide) t_148 4 rfl rfl d_Search_look_36 ?_
    refine g_iconst C0 (v := (-1)) d_Search_look_39 (by decide) ?_
    have hB := ite_some hE
    refine g_icmp_ne C0 (tgt := 44) d_Search_look_40 (by decide) (fun c_ => ?_) (fun c_ => ?_)
    · replace hE := hB.2 c_
      refine g_aload_n C0 2 d_Search_look_44 rfl rfl ?_
      refine g_iload_n C0 4 d_Search_look_45 rfl rfl ?_
      refine g_sipush C0 (v := 384) d_Search_look_46 (by decide) ?_
      refine g_irem C0 d_Search_look_49 (by decide) ?_
      obtain ⟨v50, z50, hE⟩ := bd_some hE
      refine g_calliP C0 nd_Search [10, 11, 12] rfl (sb_River_Search) (runV C0 (m_River_isGoal l K ad h32 (rm32 c0 384) z50) 1 rfl ⟨t_845, t_730, t_731, t_86, t_732⟩ cd_River_isGoal (by decide) 4 rfl rfl (sb_River_Search) nd_River rfl rfl (Nat.le_of_ble_eq_true rfl) d_Search_look_50) ?_
      have hB := ite_some hE
      refine g_if_eq C0 (tgt := 62) d_Search_look_53 (by decide) (fun c_ => ?_) (fun c_ => ?_)
      · replace hE := hB.1 c_
        refine g_aload_n C0 1 d_Search_look_62 rfl rfl ?_
        refine g_getr C0 CK_8 0 (by decide) t_298 0 rfl rfl d_Search_look_63 ?_
        refine g_iconst C0 (v := (-1)) d_Search_look_66 (by decide) ?_
        obtain ⟨h67, e67, hE⟩ := nm_some hE
        refine g_fill C0 t_846 (by decide) 1 rfl (by decide) nd_Search (Nat.le_of_ble_eq_true rfl) d_Search_look_67 ?_
        refine g_heap e67 ?_
        refine g_aload_n C0 1 d_Search_look_70 rfl rfl ?_
        refine g_iconst C0 (v := 0) d_Search_look_71 (by decide) ?_
        obtain ⟨h72, e72, hE⟩ := nm_some hE
        refine g_puti C0 CK_8 CT_8 3 (by decide) t_301 rfl (by decide +kernel) nd_Search 0 rfl rfl d_Search_look_72 ?_
        refine g_heap e72 ?_
        refine g_aload_n C0 1 d_Search_look_75 rfl rfl ?_
        refine g_iload_n C0 4 d_Search_look_76 rfl rfl ?_
        refine g_iload_n C0 4 d_Search_look_77 rfl rfl ?_
        refine g_bipush C0 (v := 16) d_Search_look_78 (by decide) ?_
        refine g_imul C0 d_Search_look_80 ?_
        obtain ⟨v81, h81, z81, hE⟩ := bd2_some hE
        refine g_calli C0 nd_Search [40, 41, 42, 43, 10, 11, 12, 20, 21, 22, 15, 16, 17] rfl (sbW_self WSearch) (runV C0 (m_Search_reach l K ad h72 c0 (c0 * 16) z81) 2 rfl ⟨t_847, t_849, t_21, t_93, t_850⟩ cd_Search_reach (by decide) 0 rfl rfl (sbW_self WSearch) nd_Search rfl rfl (Nat.le_of_ble_eq_true rfl) d_Search_look_81) ?_
        refine g_mx [40, 41, 42, 43, 10, 11, 12, 20, 21, 22, 15, 16, 17] rfl ?_
        refine g_pop C0 d_Search_look_84 rfl ?_
        refine g_aload_n C0 1 d_Search_look_85 rfl rfl ?_
        refine g_aload_n C0 2 d_Search_look_86 rfl rfl ?_
        refine g_aload_n C0 3 d_Search_look_87 rfl rfl ?_
        refine g_iload C0 5 d_Search_look_88 rfl ?_
        refine g_bipush C0 (v := 10) d_Search_look_90 (by decide) ?_
        have hB := ite_some hE
        refine g_icmp_ne C0 (tgt := 99) d_Search_look_92 (by decide) (fun c_ => ?_) (fun c_ => ?_)
        · replace hE := hB.2 c_
          refine g_iconst C0 (v := 0) d_Search_look_99 (by decide) ?_
          refine g_sub [5] (L' := [(4, .int d0)]) rfl ?_
          exact w_Search_look_J100 C0 hr N d0 0 h81 hE
        · replace hE := hB.1 c_
          refine g_iconst C0 (v := 3) d_Search_look_95 (by decide) ?_
          refine g_goto C0 (tgt := 100) d_Search_look_96 (by decide) ?_
          refine g_sub [5] (L' := [(4, .int d0)]) rfl ?_
          exact w_Search_look_J100 C0 hr N d0 3 h81 hE
      · replace hE := hB.2 c_
        refine g_aload_n C0 1 d_Search_look_56 rfl rfl ?_
        refine g_iconst C0 (v := 0) d_Search_look_57 (by decide) ?_
        obtain ⟨h58, e58, hE⟩ := nm_some hE
        refine g_puti C0 CK_8 CT_8 5 (by decide) t_303 rfl (by decide +kernel) nd_Search 0 rfl rfl d_Search_look_58 ?_
        refine g_heap e58 ?_
        obtain rfl := Option.some.inj hE
        exact g_vret C0 hr d_Search_look_61
    · replace hE := hB.1 c_
      obtain rfl := Option.some.inj hE
      exact g_vret C0 hr d_Search_look_43
  · replace hE := hB.1 c_
    obtain rfl := Option.some.inj hE
    exact g_vret C0 hr d_Search_look_18
theorem m_Search_look (l : Launch) (K : KT) (ad : Nat → Nat) (h : Hp) (N : Nat) (c0 : Int32) (d0 : Int32) {res : Hp} (hE : K_Search_look N c0 d0 h = some res) : ConV l y_Search_look prog_10_method_3_code 6 (Option.none : Option Jvm.ClassFile.FieldType) rm_Search_look K WSearch ad h [.ref (ad 40), .ref (ad 10), .ref (ad 20), .int c0, .int d0] res := fun sz =>
  con_start [(0, .ref (ad 40)), (1, .ref (ad 10)), (2, .ref (ad 20)), (3, .int c0), (4, .int d0)] (by decide +kernel) rfl (Nat.le_of_ble_eq_true rfl) (fun p e s m args below meth c C0 hr hnm hsz => w_Search_look C0 hr N c0 d0 h hE)
abbrev y_Search_pairAt : MethodName := ⟨"CanoeSides$Search", "pairAt", "(I)I"⟩
abbrev rm_Search_pairAt : Room := { frames := 0, cells := 0, slots := 0, locals := 0 }
theorem cd_Search_pairAt : cwd y_Search_pairAt 1 := by decide +kernel
theorem d_Search_pairAt_0 : decode prog_10_method_8_code 0 = .ok (.iload_n 1, 1) := by decide +kernel
theorem d_Search_pairAt_1 : decode prog_10_method_8_code 1 = .ok (.ifCond .lt 29, 3) := by decide +kernel
theorem d_Search_pairAt_4 : decode prog_10_method_8_code 4 = .ok (.iload_n 1, 1) := by decide +kernel
theorem d_Search_pairAt_5 : decode prog_10_method_8_code 5 = .ok (.aload_n 0, 1) := by decide +kernel
theorem d_Search_pairAt_6 : decode prog_10_method_8_code 6 = .ok (.getfield 28, 3) := by decide +kernel
theorem d_Search_pairAt_9 : decode prog_10_method_8_code 9 = .ok (.if_icmp .ge 21, 3) := by decide +kernel
theorem d_Search_pairAt_12 : decode prog_10_method_8_code 12 = .ok (.iload_n 1, 1) := by decide +kernel
theorem d_Search_pairAt_13 : decode prog_10_method_8_code 13 = .ok (.aload_n 0, 1) := by decide +kernel
theorem d_Search_pairAt_14 : decode prog_10_method_8_code 14 = .ok (.getfield 18, 3) := by decide +kernel
theorem d_Search_pairAt_17 : decode prog_10_method_8_code 17 = .ok (.arraylength, 1) := by decide +kernel
theorem d_Search_pairAt_18 : decode prog_10_method_8_code 18 = .ok (.if_icmp .ge 12, 3) := by decide +kernel
theorem d_Search_pairAt_21 : decode prog_10_method_8_code 21 = .ok (.aload_n 0, 1) := by decide +kernel
theorem d_Search_pairAt_22 : decode prog_10_method_8_code 22 = .ok (.getfield 18, 3) := by decide +kernel
theorem d_Search_pairAt_25 : decode prog_10_method_8_code 25 = .ok (.iload_n 1, 1) := by decide +kernel
theorem d_Search_pairAt_26 : decode prog_10_method_8_code 26 = .ok (.iaload, 1) := by decide +kernel
theorem d_Search_pairAt_27 : decode prog_10_method_8_code 27 = .ok (.goto 4, 3) := by decide +kernel
theorem d_Search_pairAt_30 : decode prog_10_method_8_code 30 = .ok (.iconst (-1), 1) := by decide +kernel
theorem d_Search_pairAt_31 : decode prog_10_method_8_code 31 = .ok (.ireturn, 1) := by decide +kernel
theorem w_Search_pairAt {p : Program} {l : Launch} {e : Env} {s : State} {m : MethodId} {args : Array Value} {below : List Frame} {meth : Method} {c : Code} {K : KT} {A : Nat → Prop} (C0 : Cx p s m args meth c prog_10_method_8_code "CanoeSides$Search" 2 K A) (hr : meth.sig.returnType = (Option.some Jvm.ClassFile.FieldType.int)) {ad : Nat → Nat} (a0 : Int32) (h : Hp) {res : Int32} (hE : K_Search_pairAt a0 h = some res) : G p l e rm_Search_pairAt s m args below meth c K A WSearch 2 0 0 (QI s args below K A WSearch 0 0 ad res h) 0 [(0, .ref (ad 40)), (1, .int a0)] [] ad h := by
  unfold K_Search_pairAt at hE
  refine g_iload_n C0 1 d_Search_pairAt_0 rfl rfl ?_
  have hB := ite_some hE
  refine g_if_lt C0 (tgt := 30) d_Search_pairAt_1 (by decide) (fun c_ => ?_) (fun c_ => ?_)
  · replace hE := hB.1 c_
    refine g_iconst C0 (v := (-1)) d_Search_pairAt_30 (by decide) ?_
    obtain rfl := Option.some.inj hE
    exact g_iret C0 hr d_Search_pairAt_31
  · replace hE := hB.2 c_
    refine g_iload_n C0 1 d_Search_pairAt_4 rfl rfl ?_
    refine g_aload_n C0 0 d_Search_pairAt_5 rfl rfl ?_
    refine g_geti C0 CK_8 5 (by decide) t_303 0 rfl rfl d_Search_pairAt_6 ?_
    have hB := ite_some hE
    refine g_icmp_ge C0 (tgt := 30) d_Search_pairAt_9 (by decide) (fun c_ => ?_) (fun c_ => ?_)
    · replace hE := hB.1 c_
      refine g_iconst C0 (v := (-1)) d_Search_pairAt_30 (by decide) ?_
      obtain rfl := Option.some.inj hE
      exact g_iret C0 hr d_Search_pairAt_31
    · replace hE := hB.2 c_
      refine g_iload_n C0 1 d_Search_pairAt_12 rfl rfl ?_
      refine g_aload_n C0 0 d_Search_pairAt_13 rfl rfl ?_
      refine g_getr C0 CK_8 2 (by decide) t_300 0 rfl rfl d_Search_pairAt_14 ?_
      refine g_alen C0 3 rfl rfl (v := 60) (by decide) d_Search_pairAt_17 ?_
      have hB := ite_some hE
      refine g_icmp_ge C0 (tgt := 30) d_Search_pairAt_18 (by decide) (fun c_ => ?_) (fun c_ => ?_)
      · replace hE := hB.1 c_
        refine g_iconst C0 (v := (-1)) d_Search_pairAt_30 (by decide) ?_
        obtain rfl := Option.some.inj hE
        exact g_iret C0 hr d_Search_pairAt_31
      · replace hE := hB.2 c_
        refine g_aload_n C0 0 d_Search_pairAt_21 rfl rfl ?_
        refine g_getr C0 CK_8 2 (by decide) t_300 0 rfl rfl d_Search_pairAt_22 ?_
        refine g_iload_n C0 1 d_Search_pairAt_25 rfl rfl ?_
        obtain ⟨q26, v26, e26, hE⟩ := gA_some hE
        refine g_iald C0 3 rfl q26 d_Search_pairAt_26 ?_
        refine g_top e26 ?_
        refine g_goto C0 (tgt := 31) d_Search_pairAt_27 (by decide) ?_
        obtain rfl := Option.some.inj hE
        exact g_iret C0 hr d_Search_pairAt_31
theorem m_Search_pairAt (l : Launch) (K : KT) (ad : Nat → Nat) (h : Hp) (a0 : Int32) {res : Int32} (hE : K_Search_pairAt a0 h = some res) : ConI l y_Search_pairAt prog_10_method_8_code 2 (Option.some Jvm.ClassFile.FieldType.int) rm_Search_pairAt K WSearch ad h [.ref (ad 40), .int a0] res h := fun sz =>
  con_start [(0, .ref (ad 40)), (1, .int a0)] (by decide +kernel) rfl (Nat.le_of_ble_eq_true rfl) (fun p e s m args below meth c C0 hr hnm hsz => w_Search_pairAt C0 hr a0 h hE)
abbrev y_Waters_chart : MethodName := ⟨"CanoeSides$Waters", "chart", "(LCanoeSides$River;)V"⟩
abbrev rm_Waters_chart : Room := { frames := 3, cells := 0, slots := 0, locals := 73 }
theorem cd_Waters_chart : cwd y_Waters_chart 1 := by decide +kernel
theorem d_Waters_chart_0 : decode prog_11_method_2_code 0 = .ok (.aload_n 0, 1) := by decide +kernel
theorem d_Waters_chart_1 : decode prog_11_method_2_code 1 = .ok (.iconst 1, 1) := by decide +kernel
theorem d_Waters_chart_2 : decode prog_11_method_2_code 2 = .ok (.aload_n 1, 1) := by decide +kernel
theorem d_Waters_chart_3 : decode prog_11_method_2_code 3 = .ok (.getfield 22, 3) := by decide +kernel
theorem d_Waters_chart_6 : decode prog_11_method_2_code 6 = .ok (.invokestatic 27, 3) := by decide +kernel
theorem d_Waters_chart_9 : decode prog_11_method_2_code 9 = .ok (.putfield 18, 3) := by decide +kernel
theorem d_Waters_chart_12 : decode prog_11_method_2_code 12 = .ok (.iconst 0, 1) := by decide +kernel
theorem d_Waters_chart_13 : decode prog_11_method_2_code 13 = .ok (.istore_n 2, 1) := by decide +kernel
theorem d_Waters_chart_14 : decode prog_11_method_2_code 14 = .ok (.iload_n 2, 1) := by decide +kernel
theorem d_Waters_chart_15 : decode prog_11_method_2_code 15 = .ok (.aload_n 0, 1) := by decide +kernel
theorem d_Waters_chart_16 : decode prog_11_method_2_code 16 = .ok (.getfield 15, 3) := by decide +kernel
theorem d_Waters_chart_19 : decode prog_11_method_2_code 19 = .ok (.arraylength, 1) := by decide +kernel
theorem d_Waters_chart_20 : decode prog_11_method_2_code 20 = .ok (.if_icmp .ge 20, 3) := by decide +kernel
theorem d_Waters_chart_23 : decode prog_11_method_2_code 23 = .ok (.aload_n 0, 1) := by decide +kernel
theorem d_Waters_chart_24 : decode prog_11_method_2_code 24 = .ok (.getfield 15, 3) := by decide +kernel
theorem d_Waters_chart_27 : decode prog_11_method_2_code 27 = .ok (.iload_n 2, 1) := by decide +kernel
theorem d_Waters_chart_28 : decode prog_11_method_2_code 28 = .ok (.aload_n 1, 1) := by decide +kernel
theorem d_Waters_chart_29 : decode prog_11_method_2_code 29 = .ok (.iload_n 2, 1) := by decide +kernel
theorem d_Waters_chart_30 : decode prog_11_method_2_code 30 = .ok (.invokevirtual 33, 3) := by decide +kernel
theorem d_Waters_chart_33 : decode prog_11_method_2_code 33 = .ok (.iastore, 1) := by decide +kernel
theorem d_Waters_chart_34 : decode prog_11_method_2_code 34 = .ok (.iinc 2 1, 3) := by decide +kernel
theorem d_Waters_chart_37 : decode prog_11_method_2_code 37 = .ok (.goto (-23), 3) := by decide +kernel
theorem d_Waters_chart_40 : decode prog_11_method_2_code 40 = .ok (.iconst 0, 1) := by decide +kernel
theorem d_Waters_chart_41 : decode prog_11_method_2_code 41 = .ok (.istore_n 2, 1) := by decide +kernel
theorem d_Waters_chart_42 : decode prog_11_method_2_code 42 = .ok (.iload_n 2, 1) := by decide +kernel
theorem d_Waters_chart_43 : decode prog_11_method_2_code 43 = .ok (.aload_n 0, 1) := by decide +kernel
theorem d_Waters_chart_44 : decode prog_11_method_2_code 44 = .ok (.getfield 11, 3) := by decide +kernel
theorem d_Waters_chart_47 : decode prog_11_method_2_code 47 = .ok (.arraylength, 1) := by decide +kernel
theorem d_Waters_chart_48 : decode prog_11_method_2_code 48 = .ok (.if_icmp .ge 36, 3) := by decide +kernel
theorem d_Waters_chart_51 : decode prog_11_method_2_code 51 = .ok (.iload_n 2, 1) := by decide +kernel
theorem d_Waters_chart_52 : decode prog_11_method_2_code 52 = .ok (.iconst 5, 1) := by decide +kernel
theorem d_Waters_chart_53 : decode prog_11_method_2_code 53 = .ok (.idiv, 1) := by decide +kernel
theorem d_Waters_chart_54 : decode prog_11_method_2_code 54 = .ok (.istore_n 3, 1) := by decide +kernel
theorem d_Waters_chart_55 : decode prog_11_method_2_code 55 = .ok (.aload_n 0, 1) := by decide +kernel
theorem d_Waters_chart_56 : decode prog_11_method_2_code 56 = .ok (.getfield 11, 3) := by decide +kernel
theorem d_Waters_chart_59 : decode prog_11_method_2_code 59 = .ok (.iload_n 2, 1) := by decide +kernel
theorem d_Waters_chart_60 : decode prog_11_method_2_code 60 = .ok (.aload_n 1, 1) := by decide +kernel
theorem d_Waters_chart_61 : decode prog_11_method_2_code 61 = .ok (.iload_n 3, 1) := by decide +kernel
theorem d_Waters_chart_62 : decode prog_11_method_2_code 62 = .ok (.bipush 8, 2) := by decide +kernel
theorem d_Waters_chart_64 : decode prog_11_method_2_code 64 = .ok (.idiv, 1) := by decide +kernel
theorem d_Waters_chart_65 : decode prog_11_method_2_code 65 = .ok (.iload_n 3, 1) := by decide +kernel
theorem d_Waters_chart_66 : decode prog_11_method_2_code 66 = .ok (.bipush 8, 2) := by decide +kernel
theorem d_Waters_chart_68 : decode prog_11_method_2_code 68 = .ok (.irem, 1) := by decide +kernel
theorem d_Waters_chart_69 : decode prog_11_method_2_code 69 = .ok (.iload_n 2, 1) := by decide +kernel
theorem d_Waters_chart_70 : decode prog_11_method_2_code 70 = .ok (.iconst 5, 1) := by decide +kernel
theorem d_Waters_chart_71 : decode prog_11_method_2_code 71 = .ok (.irem, 1) := by decide +kernel
theorem d_Waters_chart_72 : decode prog_11_method_2_code 72 = .ok (.iconst 2, 1) := by decide +kernel
theorem d_Waters_chart_73 : decode prog_11_method_2_code 73 = .ok (.isub, 1) := by decide +kernel
theorem d_Waters_chart_74 : decode prog_11_method_2_code 74 = .ok (.invokevirtual 36, 3) := by decide +kernel
theorem d_Waters_chart_77 : decode prog_11_method_2_code 77 = .ok (.iastore, 1) := by decide +kernel
theorem d_Waters_chart_78 : decode prog_11_method_2_code 78 = .ok (.iinc 2 1, 3) := by decide +kernel
theorem d_Waters_chart_81 : decode prog_11_method_2_code 81 = .ok (.goto (-39), 3) := by decide +kernel
theorem d_Waters_chart_84 : decode prog_11_method_2_code 84 = .ok (.return_, 1) := by decide +kernel
theorem w_Waters_chart_L14 {p : Program} {l : Launch} {e : Env} {s : State} {m : MethodId} {args : Array Value} {below : List Frame} {meth : Method} {c : Code} {K : KT} {A : Nat → Prop} {Q : State → Prop} (C0 : Cx p s m args meth c prog_11_method_2_code "CanoeSides$Waters" 4 K A) (hr : meth.sig.returnType = (Option.none : Option Jvm.ClassFile.FieldType)) {ad : Nat → Nat} (N : Nat) (x2 : Int32) (h : Hp) {x_ : (Int32 × Hp) ⊕ (Hp)} (hE : K_Waters_chart_L14 N x2 h = some x_) (hk1 : ∀ z_, x_ = .inl z_ → G p l e rm_Waters_chart s m args below meth c K A WWatersR 4 0 0 Q 14 [(0, .ref (ad 15)), (1, .ref (ad 10)), (2, .int z_.1)] [] ad z_.2) (hk3 : ∀ z_, x_ = .inr z_ → G p l e rm_Waters_chart s m args below meth c K A WWatersR 4 0 0 Q 40 [(0, .ref (ad 15)), (1, .ref (ad 10))] [] ad z_) : G p l e rm_Waters_chart s m args below meth c K A WWatersR 4 0 0 Q 14 [(0, .ref (ad 15)), (1, .ref (ad 10)), (2, .int x2)] [] ad h := by
  unfold K_Waters_chart_L14 at hE
  refine g_iload_n C0 2 d_Waters_chart_14 rfl rfl ?_
  refine g_aload_n C0 0 d_Waters_chart_15 rfl rfl ?_
  refine g_getr C0 CK_9 1 (by decide) t_201 0 rfl rfl d_Waters_chart_16 ?_
  refine g_alen C0 2 rfl rfl (v := 48) (by decide) d_Waters_chart_19 ?_
  have hB := ite_some hE
  refine g_icmp_ge C0 (tgt := 40) d_Waters_chart_20 (by decide) (fun c_ => ?_) (fun c_ => ?_)
  · replace hE := hB.1 c_
    refine g_sub [0, 1] (L' := [(0, .ref (ad 15)), (1, .ref (ad 10))]) rfl ?_
    exact hk3 _ (Option.some.inj hE).symm
  · replace hE := hB.2 c_
    refine g_aload_n C0 0 d_Waters_chart_23 rfl rfl ?_
    refine g_getr C0 CK_9 1 (by decide) t_201 0 rfl rfl d_Waters_chart_24 ?_
    refine g_iload_n C0 2 d_Waters_chart_27 rfl rfl ?_
    refine g_aload_n C0 1 d_Waters_chart_28 rfl rfl ?_
    refine g_iload_n C0 2 d_Waters_chart_29 rfl rfl ?_
    obtain ⟨v30, z30, hE⟩ := bd_some hE
    refine g_calliP C0 nd_WatersR [10, 11, 12] rfl (sb_River_WatersR) (runV C0 (m_River_blown l K ad h x2 z30) 1 rfl ⟨t_389, t_390, t_391, t_86, t_392⟩ cd_River_blown (by decide) 3 rfl rfl (sb_River_WatersR) nd_River rfl rfl (Nat.le_of_ble_eq_true rfl) d_Waters_chart_30) ?_
    obtain ⟨q33, hE⟩ := sA_some hE
    obtain ⟨h33, e33, hE⟩ := nm_some hE
    refine g_iast C0 2 rfl nd_WatersR q33 d_Waters_chart_33 ?_
    refine g_heap e33 ?_
    obtain ⟨v34, e34, hE⟩ := nm_some hE
    refine g_iinc C0 2 [(2, .int v34), (0, .ref (ad 15)), (1, .ref (ad 10))] d_Waters_chart_34 rfl (by rw [e34]; rfl) (by decide) rfl ?_
    refine g_goto C0 (tgt := 14) d_Waters_chart_37 (by decide) ?_
    refine g_sub [1, 2, 0] (L' := [(0, .ref (ad 15)), (1, .ref (ad 10)), (2, .int v34)]) rfl ?_
    exact hk1 _ (Option.some.inj hE).symm
theorem w_Waters_chart_L42 {p : Program} {l : Launch} {e : Env} {s : State} {m : MethodId} {args : Array Value} {below : List Frame} {meth : Method} {c : Code} {K : KT} {A : Nat → Prop} {Q : State → Prop} (C0 : Cx p s m args meth c prog_11_method_2_code "CanoeSides$Waters" 4 K A) (hr : meth.sig.returnType = (Option.none : Option Jvm.ClassFile.FieldType)) {ad : Nat → Nat} (N : Nat) (x2 : Int32) (h : Hp) {x_ : (Int32 × Hp) ⊕ (Hp)} (hE : K_Waters_chart_L42 N x2 h = some x_) (hk1 : ∀ z_, x_ = .inl z_ → G p l e rm_Waters_chart s m args below meth c K A WWatersR 4 0 0 Q 42 [(0, .ref (ad 15)), (1, .ref (ad 10)), (2, .int z_.1)] [] ad z_.2) (hk3 : ∀ z_, x_ = .inr z_ → G p l e rm_Waters_chart s m args below meth c K A WWatersR 4 0 0 Q 84 [] [] ad z_) : G p l e rm_Waters_chart s m args below meth c K A WWatersR 4 0 0 Q 42 [(0, .ref (ad 15)), (1, .ref (ad 10)), (2, .int x2)] [] ad h := by
  unfold K_Waters_chart_L42 at hE
  refine g_iload_n C0 2 d_Waters_chart_42 rfl rfl ?_
  refine g_aload_n C0 0 d_Waters_chart_43 rfl rfl ?_
  refine g_getr C0 CK_9 0 (by decide) t_200 0 rfl rfl d_Waters_chart_44 ?_
  refine g_alen C0 1 rfl rfl (v := 1920) (by decide) d_Waters_chart_47 ?_
  have hB := ite_some hE
  refine g_icmp_ge C0 (tgt := 84) d_Waters_chart_48 (by decide) (fun c_ => ?_) (fun c_ => ?_)
  · replace hE := hB.1 c_
    refine g_sub [] (L' := []) rfl ?_
    exact hk3 _ (Option.some.inj hE).symm
  · replace hE := hB.2 c_
    refine g_iload_n C0 2 d_Waters_chart_51 rfl rfl ?_
    refine g_iconst C0 (v := 5) d_Waters_chart_52 (by decide) ?_
    refine g_idiv C0 d_Waters_chart_53 (by decide) ?_
    obtain ⟨v54, e54, hE⟩ := nm_some hE
    refine g_top e54 ?_
    refine g_istore_n C0 [(3, .int v54), (0, .ref (ad 15)), (1, .ref (ad 10)), (2, .int x2)] d_Waters_chart_54 rfl (by decide) rfl ?_
    refine g_aload_n C0 1 d_Waters_chart_55 rfl rfl ?_
    refine g_getr C0 CK_9 0 (by decide) t_200 0 rfl rfl d_Waters_chart_56 ?_
    refine g_iload_n C0 3 d_Waters_chart_59 rfl rfl ?_
    refine g_aload_n C0 2 d_Waters_chart_60 rfl rfl ?_
    refine g_iload_n C0 0 d_Waters_chart_61 rfl rfl ?_
    refine g_bipush C0 (v := 8) d_Waters_chart_62 (by decide) ?_
    refine g_idiv C0 d_Waters_chart_64 (by decide) ?_
    refine g_iload_n C0 0 d_Waters_chart_65 rfl rfl ?_
    refine g_bipush C0 (v := 8) d_Waters_chart_66 (by decide) ?_
    refine g_irem C0 d_Waters_chart_68 (by decide) ?_
    refine g_iload_n C0 3 d_Waters_chart_69 rfl rfl ?_
    refine g_iconst C0 (v := 5) d_Waters_chart_70 (by decide) ?_
    refine g_irem C0 d_Waters_chart_71 (by decide) ?_
    refine g_iconst C0 (v := 2) d_Waters_chart_72 (by decide) ?_
    refine g_isub C0 d_Waters_chart_73 ?_
    obtain ⟨v74, z74, hE⟩ := bd_some hE
    refine g_calliP C0 nd_WatersR [10, 11, 12] rfl (sb_River_WatersR) (runV C0 (m_River_pushed l K ad h N (v54 / 8) (rm32 v54 8) ((rm32 x2 5) - 2) z74) 3 rfl ⟨t_411, t_412, t_413, t_86, t_414⟩ cd_River_pushed (by decide) 3 rfl rfl (sb_River_WatersR) nd_River rfl rfl (Nat.le_of_ble_eq_true rfl) d_Waters_chart_74) ?_
    obtain ⟨q77, hE⟩ := sA_some hE
    obtain ⟨h77, e77, hE⟩ := nm_some hE
    refine g_iast C0 1 rfl nd_WatersR q77 d_Waters_chart_77 ?_
    refine g_heap e77 ?_
    obtain ⟨v78, e78, hE⟩ := nm_some hE
    refine g_iinc C0 3 [(2, .int v78), (3, .int v54), (0, .ref (ad 15)), (1, .ref (ad 10))] d_Waters_chart_78 rfl (by rw [e78]; rfl) (by decide) rfl ?_
    refine g_goto C0 (tgt := 42) d_Waters_chart_81 (by decide) ?_
    refine g_sub [2, 3, 0] (L' := [(0, .ref (ad 15)), (1, .ref (ad 10)), (2, .int v78)]) rfl ?_
    exact hk1 _ (Option.some.inj hE).symm
theorem w_Waters_chart {p : Program} {l : Launch} {e : Env} {s : State} {m : MethodId} {args : Array Value} {below : List Frame} {meth : Method} {c : Code} {K : KT} {A : Nat → Prop} (C0 : Cx p s m args meth c prog_11_method_2_code "CanoeSides$Waters" 4 K A) (hr : meth.sig.returnType = (Option.none : Option Jvm.ClassFile.FieldType)) {ad : Nat → Nat} (N : Nat) (h : Hp) {res : Hp} (hE : K_Waters_chart N h = some res) : G p l e rm_Waters_chart s m args below meth c K A WWatersR 4 0 0 (QV s args below K A WWatersR 0 0 ad res) 0 [(0, .ref (ad 15)), (1, .ref (ad 10))] [] ad h := by
  unfold K_Waters_chart at hE
  refine g_aload_n C0 0 d_Waters_chart_0 rfl rfl ?_
  refine g_iconst C0 (v := 1) d_Waters_chart_1 (by decide) ?_
  refine g_aload_n C0 1 d_Waters_chart_2 rfl rfl ?_
  refine g_getiN C0 CK_7 11 (by decide) t_161 3 rfl rfl d_Waters_chart_3 ?_
  refine g_max C0 t_386 ⟨Nat.le_of_ble_eq_true rfl, Nat.le_of_ble_eq_true rfl, Nat.zero_le _, Nat.zero_le _⟩ d_Waters_chart_6 ?_
  obtain ⟨h9, e9, hE⟩ := nm_some hE
  refine g_puti C0 CK_9 CT_9 2 (by decide) t_202 rfl (by decide +kernel) nd_WatersR 0 rfl rfl d_Waters_chart_9 ?_
  refine g_heap e9 ?_
  refine g_iconst C0 (v := 0) d_Waters_chart_12 (by decide) ?_
  refine g_istore_n C0 [(2, .int 0), (0, .ref (ad 15)), (1, .ref (ad 10))] d_Waters_chart_13 rfl (by decide) rfl ?_
  refine g_sub [1, 2, 0] (L' := [(0, .ref (ad 15)), (1, .ref (ad 10)), (2, .int 0)]) rfl ?_
  obtain ⟨t14, z14, hE⟩ := bd_some hE
  refine loopG (fun z_ : Int32 × Hp => K_Waters_chart_L14 N z_.1 z_.2) (fun z_ : Int32 × Hp => G p l e rm_Waters_chart s m args below meth c K A WWatersR 4 0 0 _ 14 [(0, .ref (ad 15)), (1, .ref (ad 10)), (2, .int z_.1)] [] ad z_.2) (fun z_ : Hp => G p l e rm_Waters_chart s m args below meth c K A WWatersR 4 0 0 _ 40 [(0, .ref (ad 15)), (1, .ref (ad 10))] [] ad z_) (fun z_ x_ hz k1 k2 => w_Waters_chart_L14 C0 hr N z_.1 z_.2 hz k1 k2) _ _ _ z14 ?_
  try dsimp only
  refine g_iconst C0 (v := 0) d_Waters_chart_40 (by decide) ?_
  refine g_istore_n C0 [(2, .int 0), (0, .ref (ad 15)), (1, .ref (ad 10))] d_Waters_chart_41 rfl (by decide) rfl ?_
  refine g_sub [1, 2, 0] (L' := [(0, .ref (ad 15)), (1, .ref (ad 10)), (2, .int 0)]) rfl ?_
  obtain ⟨t42, z42, hE⟩ := bd_some hE
  refine loopG (fun z_ : Int32 × Hp => K_Waters_chart_L42 N z_.1 z_.2) (fun z_ : Int32 × Hp => G p l e rm_Waters_chart s m args below meth c K A WWatersR 4 0 0 _ 42 [(0, .ref (ad 15)), (1, .ref (ad 10)), (2, .int z_.1)] [] ad z_.2) (fun z_ : Hp => G p l e rm_Waters_chart s m args below meth c K A WWatersR 4 0 0 _ 84 [] [] ad z_) (fun z_ x_ hz k1 k2 => w_Waters_chart_L42 C0 hr N z_.1 z_.2 hz k1 k2) _ _ _ z42 ?_
  try dsimp only
  obtain rfl := Option.some.inj hE
  exact g_vret C0 hr d_Waters_chart_84
theorem m_Waters_chart (l : Launch) (K : KT) (ad : Nat → Nat) (h : Hp) (N : Nat) {res : Hp} (hE : K_Waters_chart N h = some res) : ConV l y_Waters_chart prog_11_method_2_code 4 (Option.none : Option Jvm.ClassFile.FieldType) rm_Waters_chart K WWatersR ad h [.ref (ad 15), .ref (ad 10)] res := fun sz =>
  con_start [(0, .ref (ad 15)), (1, .ref (ad 10))] (by decide +kernel) rfl (Nat.le_of_ble_eq_true rfl) (fun p e s m args below meth c C0 hr hnm hsz => w_Waters_chart C0 hr N h hE)
abbrev y_C_isOutside : MethodName := ⟨"CanoeSides", "isOutside", "(III)Z"⟩
abbrev rm_C_isOutside : Room := { frames := 0, cells := 0, slots := 0, locals := 0 }
theorem cd_C_isOutside : cwd y_C_isOutside 3 := by decide +kernel
theorem d_C_isOutside_0 : decode prog_1_method_33_code 0 = .ok (.iload_n 0, 1) := by decide +kernel
theorem d_C_isOutside_1 : decode prog_1_method_33_code 1 = .ok (.iload_n 1, 1) := by decide +kernel
theorem d_C_isOutside_2 : decode prog_1_method_33_code 2 = .ok (.if_icmp .lt 8, 3) := by decide +kernel
theorem d_C_isOutside_5 : decode prog_1_method_33_code 5 = .ok (.iload_n 0, 1) := by decide +kernel
theorem d_C_isOutside_6 : decode prog_1_method_33_code 6 = .ok (.iload_n 2, 1) := by decide +kernel
theorem d_C_isOutside_7 : decode prog_1_method_33_code 7 = .ok (.if_icmp .le 7, 3) := by decide +kernel
theorem d_C_isOutside_10 : decode prog_1_method_33_code 10 = .ok (.iconst 1, 1) := by decide +kernel
theorem d_C_isOutside_11 : decode prog_1_method_33_code 11 = .ok (.goto 4, 3) := by decide +kernel
theorem d_C_isOutside_14 : decode prog_1_method_33_code 14 = .ok (.iconst 0, 1) := by decide +kernel
theorem d_C_isOutside_15 : decode prog_1_method_33_code 15 = .ok (.ireturn, 1) := by decide +kernel
theorem w_C_isOutside_J10 {p : Program} {l : Launch} {e : Env} {s : State} {m : MethodId} {args : Array Value} {below : List Frame} {meth : Method} {c : Code} {K : KT} {A : Nat → Prop} (C0 : Cx p s m args meth c prog_1_method_33_code "CanoeSides" 3 K A) (hr : meth.sig.returnType = (Option.some Jvm.ClassFile.FieldType.boolean)) {ad : Nat → Nat} (h : Hp) {res : Int32} (hE : K_C_isOutside_J10 = some res) : G p l e rm_C_isOutside s m args below meth c K A WE 3 0 0 (QI s args below K A WE 0 0 ad res h) 10 [] [] ad h := by
  unfold K_C_isOutside_J10 at hE
  refine g_iconst C0 (v := 1) d_C_isOutside_10 (by decide) ?_
  refine g_goto C0 (tgt := 15) d_C_isOutside_11 (by decide) ?_
  obtain rfl := Option.some.inj hE
  exact g_zret C0 hr nz1 d_C_isOutside_15
theorem w_C_isOutside {p : Program} {l : Launch} {e : Env} {s : State} {m : MethodId} {args : Array Value} {below : List Frame} {meth : Method} {c : Code} {K : KT} {A : Nat → Prop} (C0 : Cx p s m args meth c prog_1_method_33_code "CanoeSides" 3 K A) (hr : meth.sig.returnType = (Option.some Jvm.ClassFile.FieldType.boolean)) {ad : Nat → Nat} (a0 : Int32) (b0 : Int32) (c0 : Int32) (h : Hp) {res : Int32} (hE : K_C_isOutside a0 b0 c0 = some res) : G p l e rm_C_isOutside s m args below meth c K A WE 3 0 0 (QI s args below K A WE 0 0 ad res h) 0 [(0, .int a0), (1, .int b0), (2, .int c0)] [] ad h := by
  unfold K_C_isOutside at hE
  refine g_iload_n C0 0 d_C_isOutside_0 rfl rfl ?_
  refine g_iload_n C0 1 d_C_isOutside_1 rfl rfl ?_
  have hB := ite_some hE
  refine g_icmp_lt C0 (tgt := 10) d_C_isOutside_2 (by decide) (fun c_ => ?_) (fun c_ => ?_)
  · replace hE := hB.1 c_
    refine g_sub [] (L' := []) rfl ?_
    exact w_C_isOutside_J10 C0 hr h hE
  · replace hE := hB.2 c_
    refine g_iload_n C0 0 d_C_isOutside_5 rfl rfl ?_
    refine g_iload_n C0 2 d_C_isOutside_6 rfl rfl ?_
    have hB := ite_some hE
    refine g_icmp_le C0 (tgt := 14) d_C_isOutside_7 (by decide) (fun c_ => ?_) (fun c_ => ?_)
    · replace hE := hB.1 c_
      refine g_iconst C0 (v := 0) d_C_isOutside_14 (by decide) ?_
      obtain rfl := Option.some.inj hE
      exact g_zret C0 hr nz0 d_C_isOutside_15
    · replace hE := hB.2 c_
      refine g_sub [] (L' := []) rfl ?_
      exact w_C_isOutside_J10 C0 hr h hE
theorem m_C_isOutside (l : Launch) (K : KT) (ad : Nat → Nat) (h : Hp) (a0 : Int32) (b0 : Int32) (c0 : Int32) {res : Int32} (hE : K_C_isOutside a0 b0 c0 = some res) : ConI l y_C_isOutside prog_1_method_33_code 3 (Option.some Jvm.ClassFile.FieldType.boolean) rm_C_isOutside K WE ad h [.int a0, .int b0, .int c0] res h := fun sz =>
  con_start [(0, .int a0), (1, .int b0), (2, .int c0)] (by decide +kernel) rfl (Nat.le_of_ble_eq_true rfl) (fun p e s m args below meth c C0 hr hnm hsz => w_C_isOutside C0 hr a0 b0 c0 h hE)
abbrev y_C_feed : MethodName := ⟨"CanoeSides", "feed", "(I)I"⟩
abbrev rm_C_feed : Room := { frames := 1, cells := 0, slots := 0, locals := 22 }
theorem cd_C_feed : cwd y_C_feed 1 := by decide +kernel
theorem d_C_feed_0 : decode prog_1_method_2_code 0 = .ok (.iload_n 1, 1) := by decide +kernel
theorem d_C_feed_1 : decode prog_1_method_2_code 1 = .ok (.iconst 0, 1) := by decide +kernel
theorem d_C_feed_2 : decode prog_1_method_2_code 2 = .ok (.sipush 255, 3) := by decide +kernel
theorem d_C_feed_5 : decode prog_1_method_2_code 5 = .ok (.invokestatic 96, 3) := by decide +kernel
theorem d_C_feed_8 : decode prog_1_method_2_code 8 = .ok (.ifCond .eq 6, 3) := by decide +kernel
theorem d_C_feed_11 : decode prog_1_method_2_code 11 = .ok (.ldc 100, 2) := by decide +kernel
theorem d_C_feed_13 : decode prog_1_method_2_code 13 = .ok (.ireturn, 1) := by decide +kernel
theorem d_C_feed_14 : decode prog_1_method_2_code 14 = .ok (.aload_n 0, 1) := by decide +kernel
theorem d_C_feed_15 : decode prog_1_method_2_code 15 = .ok (.getfield 13, 3) := by decide +kernel
theorem d_C_feed_18 : decode prog_1_method_2_code 18 = .ok (.ifCond .lt 15, 3) := by decide +kernel
theorem d_C_feed_21 : decode prog_1_method_2_code 21 = .ok (.aload_n 0, 1) := by decide +kernel
theorem d_C_feed_22 : decode prog_1_method_2_code 22 = .ok (.getfield 13, 3) := by decide +kernel
theorem d_C_feed_25 : decode prog_1_method_2_code 25 = .ok (.aload_n 0, 1) := by decide +kernel
theorem d_C_feed_26 : decode prog_1_method_2_code 26 = .ok (.getfield 9, 3) := by decide +kernel
theorem d_C_feed_29 : decode prog_1_method_2_code 29 = .ok (.arraylength, 1) := by decide +kernel
theorem d_C_feed_30 : decode prog_1_method_2_code 30 = .ok (.if_icmp .lt 6, 3) := by decide +kernel
theorem d_C_feed_33 : decode prog_1_method_2_code 33 = .ok (.ldc 101, 2) := by decide +kernel
theorem d_C_feed_35 : decode prog_1_method_2_code 35 = .ok (.ireturn, 1) := by decide +kernel
theorem d_C_feed_36 : decode prog_1_method_2_code 36 = .ok (.aload_n 0, 1) := by decide +kernel
theorem d_C_feed_37 : decode prog_1_method_2_code 37 = .ok (.getfield 9, 3) := by decide +kernel
theorem d_C_feed_40 : decode prog_1_method_2_code 40 = .ok (.aload_n 0, 1) := by decide +kernel
theorem d_C_feed_41 : decode prog_1_method_2_code 41 = .ok (.getfield 13, 3) := by decide +kernel
theorem d_C_feed_44 : decode prog_1_method_2_code 44 = .ok (.iload_n 1, 1) := by decide +kernel
theorem d_C_feed_45 : decode prog_1_method_2_code 45 = .ok (.iastore, 1) := by decide +kernel
theorem d_C_feed_46 : decode prog_1_method_2_code 46 = .ok (.aload_n 0, 1) := by decide +kernel
theorem d_C_feed_47 : decode prog_1_method_2_code 47 = .ok (.dup, 1) := by decide +kernel
theorem d_C_feed_48 : decode prog_1_method_2_code 48 = .ok (.getfield 13, 3) := by decide +kernel
theorem d_C_feed_51 : decode prog_1_method_2_code 51 = .ok (.iconst 1, 1) := by decide +kernel
theorem d_C_feed_52 : decode prog_1_method_2_code 52 = .ok (.iadd, 1) := by decide +kernel
theorem d_C_feed_53 : decode prog_1_method_2_code 53 = .ok (.putfield 13, 3) := by decide +kernel
theorem d_C_feed_56 : decode prog_1_method_2_code 56 = .ok (.aload_n 0, 1) := by decide +kernel
theorem d_C_feed_57 : decode prog_1_method_2_code 57 = .ok (.getfield 13, 3) := by decide +kernel
theorem d_C_feed_60 : decode prog_1_method_2_code 60 = .ok (.ireturn, 1) := by decide +kernel
theorem w_C_feed {p : Program} {l : Launch} {e : Env} {s : State} {m : MethodId} {args : Array Value} {below : List Frame} {meth : Method} {c : Code} {K : KT} {A : Nat → Prop} (C0 : Cx p s m args meth c prog_1_method_2_code "CanoeSides" 2 K A) (hr : meth.sig.returnType = (Option.some Jvm.ClassFile.FieldType.int)) {ad : Nat → Nat} (a0 : Int32) (h : Hp) {res : Int32 × Hp} (hE : K_C_feed a0 h = some res) : G p l e rm_C_feed s m args below meth c K A WC 2 0 0 (QI s args below K A WC 0 0 ad res.1 res.2) 0 [(0, .ref (ad 0)), (1, .int a0)] [] ad h := by
  unfold K_C_feed at hE
  refine g_iload_n C0 1 d_C_feed_0 rfl rfl ?_
  refine g_iconst C0 (v := 0) d_C_feed_1 (by decide) ?_
  refine g_sipush C0 (v := 255) d_C_feed_2 (by decide) ?_
  obtain ⟨v5, z5, hE⟩ := bd_some hE
  refine g_calliP C0 nd_C [] rfl (sb_E_C) (runS C0 (m_C_isOutside l K ad h a0 0 255 z5) 3 ⟨t_499, t_500, t_85, t_501⟩ cd_C_isOutside (by decide) (sb_E_C) nd_E rfl rfl (Nat.le_of_ble_eq_true rfl) d_C_feed_5) ?_
  have hB := ite_some hE
  refine g_if_eq C0 (tgt := 14) d_C_feed_8 (by decide) (fun c_ => ?_) (fun c_ => ?_)
  · replace hE := hB.1 c_
    refine g_aload_n C0 0 d_C_feed_14 rfl rfl ?_
    refine g_geti C0 CK_10 1 (by decide) t_453 0 rfl rfl d_C_feed_15 ?_
    have hB := ite_some hE
    refine g_if_lt C0 (tgt := 33) d_C_feed_18 (by decide) (fun c_ => ?_) (fun c_ => ?_)
    · replace hE := hB.1 c_
      refine g_ldc C0 (v := (-1000000004)) t_503 d_C_feed_33 ?_
      obtain rfl := Option.some.inj hE
      exact g_iret C0 hr d_C_feed_35
    · replace hE := hB.2 c_
      refine g_aload_n C0 0 d_C_feed_21 rfl rfl ?_
      refine g_geti C0 CK_10 1 (by decide) t_453 0 rfl rfl d_C_feed_22 ?_
      refine g_aload_n C0 0 d_C_feed_25 rfl rfl ?_
      refine g_getr C0 CK_10 0 (by decide) t_452 0 rfl rfl d_C_feed_26 ?_
      refine g_alen C0 1 rfl rfl (v := 250) (by decide) d_C_feed_29 ?_
      have hB := ite_some hE
      refine g_icmp_lt C0 (tgt := 36) d_C_feed_30 (by decide) (fun c_ => ?_) (fun c_ => ?_)
      · replace hE := hB.1 c_
        refine g_aload_n C0 0 d_C_feed_36 rfl rfl ?_
        refine g_getr C0 CK_10 0 (by decide) t_452 0 rfl rfl d_C_feed_37 ?_
        refine g_aload_n C0 0 d_C_feed_40 rfl rfl ?_
        refine g_geti C0 CK_10 1 (by decide) t_453 0 rfl rfl d_C_feed_41 ?_
        refine g_iload_n C0 1 d_C_feed_44 rfl rfl ?_
        obtain ⟨q45, hE⟩ := sA_some hE
        obtain ⟨h45, e45, hE⟩ := nm_some hE
        refine g_iast C0 1 rfl nd_C q45 d_C_feed_45 ?_
        refine g_heap e45 ?_
        refine g_aload_n C0 0 d_C_feed_46 rfl rfl ?_
        refine g_dup C0 d_C_feed_47 rfl ?_
        refine g_geti C0 CK_10 1 (by decide) t_453 0 rfl rfl d_C_feed_48 ?_
        refine g_iconst C0 (v := 1) d_C_feed_51 (by decide) ?_
        refine g_iadd C0 d_C_feed_52 ?_
        obtain ⟨h53, e53, hE⟩ := nm_some hE
        refine g_puti C0 CK_10 CT_10 1 (by decide) t_453 rfl (by decide +kernel) nd_C 0 rfl rfl d_C_feed_53 ?_
        refine g_heap e53 ?_
        refine g_aload_n C0 0 d_C_feed_56 rfl rfl ?_
        refine g_geti C0 CK_10 1 (by decide) t_453 0 rfl rfl d_C_feed_57 ?_
        obtain rfl := Option.some.inj hE
        exact g_iret C0 hr d_C_feed_60
      · replace hE := hB.2 c_
        refine g_ldc C0 (v := (-1000000004)) t_503 d_C_feed_33 ?_
        obtain rfl := Option.some.inj hE
        exact g_iret C0 hr d_C_feed_35
  · replace hE := hB.2 c_
    refine g_ldc C0 (v := (-1000000002)) t_502 d_C_feed_11 ?_
    obtain rfl := Option.some.inj hE
    exact g_iret C0 hr d_C_feed_13
theorem m_C_feed (l : Launch) (K : KT) (ad : Nat → Nat) (h : Hp) (a0 : Int32) {res : Int32 × Hp} (hE : K_C_feed a0 h = some res) : ConI l y_C_feed prog_1_method_2_code 2 (Option.some Jvm.ClassFile.FieldType.int) rm_C_feed K WC ad h [.ref (ad 0), .int a0] res.1 res.2 := fun sz =>
  con_start [(0, .ref (ad 0)), (1, .int a0)] (by decide +kernel) rfl (Nat.le_of_ble_eq_true rfl) (fun p e s m args below meth c C0 hr hnm hsz => w_C_feed C0 hr a0 h hE)
abbrev y_C_fault : MethodName := ⟨"CanoeSides", "fault", "()I"⟩
abbrev rm_C_fault : Room := { frames := 0, cells := 0, slots := 0, locals := 0 }
theorem cd_C_fault : cwd y_C_fault 0 := by decide +kernel
theorem d_C_fault_0 : decode prog_1_method_4_code 0 = .ok (.aload_n 0, 1) := by decide +kernel
theorem d_C_fault_1 : decode prog_1_method_4_code 1 = .ok (.getfield 17, 3) := by decide +kernel
theorem d_C_fault_4 : decode prog_1_method_4_code 4 = .ok (.ireturn, 1) := by decide +kernel
theorem w_C_fault {p : Program} {l : Launch} {e : Env} {s : State} {m : MethodId} {args : Array Value} {below : List Frame} {meth : Method} {c : Code} {K : KT} {A : Nat → Prop} (C0 : Cx p s m args meth c prog_1_method_4_code "CanoeSides" 1 K A) (hr : meth.sig.returnType = (Option.some Jvm.ClassFile.FieldType.int)) {ad : Nat → Nat} (h : Hp) {res : Int32} (hE : K_C_fault h = some res) : G p l e rm_C_fault s m args below meth c K A WC 1 0 0 (QI s args below K A WC 0 0 ad res h) 0 [(0, .ref (ad 0))] [] ad h := by
  unfold K_C_fault at hE
  refine g_aload_n C0 0 d_C_fault_0 rfl rfl ?_
  refine g_geti C0 CK_10 2 (by decide) t_454 0 rfl rfl d_C_fault_1 ?_
  obtain rfl := Option.some.inj hE
  exact g_iret C0 hr d_C_fault_4
theorem m_C_fault (l : Launch) (K : KT) (ad : Nat → Nat) (h : Hp) {res : Int32} (hE : K_C_fault h = some res) : ConI l y_C_fault prog_1_method_4_code 1 (Option.some Jvm.ClassFile.FieldType.int) rm_C_fault K WC ad h [.ref (ad 0)] res h := fun sz =>
  con_start [(0, .ref (ad 0))] (by decide +kernel) rfl (Nat.le_of_ble_eq_true rfl) (fun p e s m args below meth c C0 hr hnm hsz => w_C_fault C0 hr h hE)
abbrev y_C_toldOfText : MethodName := ⟨"CanoeSides", "toldOfText", "(I)I"⟩
abbrev rm_C_toldOfText : Room := { frames := 0, cells := 0, slots := 0, locals := 0 }
theorem cd_C_toldOfText : cwd y_C_toldOfText 1 := by decide +kernel
theorem d_C_toldOfText_0 : decode prog_1_method_43_code 0 = .ok (.iload_n 1, 1) := by decide +kernel
theorem d_C_toldOfText_1 : decode prog_1_method_43_code 1 = .ok (.tableswitch 87 0 5 #[39, 47, 55, 63, 71, 79], 39) := by decide +kernel
theorem d_C_toldOfText_40 : decode prog_1_method_43_code 40 = .ok (.aload_n 0, 1) := by decide +kernel
theorem d_C_toldOfText_41 : decode prog_1_method_43_code 41 = .ok (.getfield 23, 3) := by decide +kernel
theorem d_C_toldOfText_44 : decode prog_1_method_43_code 44 = .ok (.getfield 115, 3) := by decide +kernel
theorem d_C_toldOfText_47 : decode prog_1_method_43_code 47 = .ok (.ireturn, 1) := by decide +kernel
theorem d_C_toldOfText_48 : decode prog_1_method_43_code 48 = .ok (.aload_n 0, 1) := by decide +kernel
theorem d_C_toldOfText_49 : decode prog_1_method_43_code 49 = .ok (.getfield 23, 3) := by decide +kernel
theorem d_C_toldOfText_52 : decode prog_1_method_43_code 52 = .ok (.getfield 118, 3) := by decide +kernel
theorem d_C_toldOfText_55 : decode prog_1_method_43_code 55 = .ok (.ireturn, 1) := by decide +kernel
theorem d_C_toldOfText_56 : decode prog_1_method_43_code 56 = .ok (.aload_n 0, 1) := by decide +kernel
theorem d_C_toldOfText_57 : decode prog_1_method_43_code 57 = .ok (.getfield 23, 3) := by decide +kernel
theorem d_C_toldOfText_60 : decode prog_1_method_43_code 60 = .ok (.getfield 307, 3) := by decide +kernel
theorem d_C_toldOfText_63 : decode prog_1_method_43_code 63 = .ok (.ireturn, 1) := by decide +kernel
theorem d_C_toldOfText_64 : decode prog_1_method_43_code 64 = .ok (.aload_n 0, 1) := by decide +kernel
theorem d_C_toldOfText_65 : decode prog_1_method_43_code 65 = .ok (.getfield 23, 3) := by decide +kernel
theorem d_C_toldOfText_68 : decode prog_1_method_43_code 68 = .ok (.getfield 310, 3) := by decide +kernel
theorem d_C_toldOfText_71 : decode prog_1_method_43_code 71 = .ok (.ireturn, 1) := by decide +kernel
theorem d_C_toldOfText_72 : decode prog_1_method_43_code 72 = .ok (.aload_n 0, 1) := by decide +kernel
theorem d_C_toldOfText_73 : decode prog_1_method_43_code 73 = .ok (.getfield 23, 3) := by decide +kernel
theorem d_C_toldOfText_76 : decode prog_1_method_43_code 76 = .ok (.getfield 313, 3) := by decide +kernel
theorem d_C_toldOfText_79 : decode prog_1_method_43_code 79 = .ok (.ireturn, 1) := by decide +kernel
theorem d_C_toldOfText_80 : decode prog_1_method_43_code 80 = .ok (.aload_n 0, 1) := by decide +kernel
theorem d_C_toldOfText_81 : decode prog_1_method_43_code 81 = .ok (.getfield 23, 3) := by decide +kernel
theorem d_C_toldOfText_84 : decode prog_1_method_43_code 84 = .ok (.getfield 316, 3) := by decide +kernel
theorem d_C_toldOfText_87 : decode prog_1_method_43_code 87 = .ok (.ireturn, 1) := by decide +kernel
theorem d_C_toldOfText_88 : decode prog_1_method_43_code 88 = .ok (.aload_n 0, 1) := by decide +kernel
theorem d_C_toldOfText_89 : decode prog_1_method_43_code 89 = .ok (.getfield 13, 3) := by decide +kernel
theorem d_C_toldOfText_92 : decode prog_1_method_43_code 92 = .ok (.ireturn, 1) := by decide +kernel
theorem w_C_toldOfText {p : Program} {l : Launch} {e : Env} {s : State} {m : MethodId} {args : Array Value} {below : List Frame} {meth : Method} {c : Code} {K : KT} {A : Nat → Prop} (C0 : Cx p s m args meth c prog_1_method_43_code "CanoeSides" 2 K A) (hr : meth.sig.returnType = (Option.some Jvm.ClassFile.FieldType.int)) {ad : Nat → Nat} (a0 : Int32) (h : Hp) {res : Int32} (hE : K_C_toldOfText a0 h = some res) : G p l e rm_C_toldOfText s m args below meth c K A WC 2 0 0 (QI s args below K A WC 0 0 ad res h) 0 [(0, .ref (ad 0)), (1, .int a0)] [] ad h := by
  unfold K_C_toldOfText at hE
  refine g_iload_n C0 1 d_C_toldOfText_0 rfl rfl ?_
  have hB := ite_some hE
  by_cases c_0 : a0 = 0
  · replace hE := hB.1 c_0
    refine g_tableIn C0 (tgt := 40) (off := 39) d_C_toldOfText_1 (by rw [c_0]; decide) (by rw [c_0]; decide) (by rw [c_0]; rfl) (by decide) ?_
    refine g_aload_n C0 0 d_C_toldOfText_40 rfl rfl ?_
    refine g_getr C0 CK_10 3 (by decide) t_455 0 rfl rfl d_C_toldOfText_41 ?_
    refine g_getiN C0 CK_7 0 (by decide) t_122 2 rfl rfl d_C_toldOfText_44 ?_
    obtain rfl := Option.some.inj hE
    exact g_iret C0 hr d_C_toldOfText_47
  · replace hE := hB.2 c_0
    have hB := ite_some hE
    by_cases c_1 : a0 = 1
    · replace hE := hB.1 c_1
      refine g_tableIn C0 (tgt := 48) (off := 47) d_C_toldOfText_1 (by rw [c_1]; decide) (by rw [c_1]; decide) (by rw [c_1]; rfl) (by decide) ?_
      refine g_aload_n C0 0 d_C_toldOfText_48 rfl rfl ?_
      refine g_getr C0 CK_10 3 (by decide) t_455 0 rfl rfl d_C_toldOfText_49 ?_
      refine g_getiN C0 CK_7 1 (by decide) t_125 2 rfl rfl d_C_toldOfText_52 ?_
      obtain rfl := Option.some.inj hE
      exact g_iret C0 hr d_C_toldOfText_55
    · replace hE := hB.2 c_1
      have hB := ite_some hE
      by_cases c_2 : a0 = 2
      · replace hE := hB.1 c_2
        refine g_tableIn C0 (tgt := 56) (off := 55) d_C_toldOfText_1 (by rw [c_2]; decide) (by rw [c_2]; decide) (by rw [c_2]; rfl) (by decide) ?_
        refine g_aload_n C0 0 d_C_toldOfText_56 rfl rfl ?_
        refine g_getr C0 CK_10 3 (by decide) t_455 0 rfl rfl d_C_toldOfText_57 ?_
        refine g_getiN C0 CK_7 3 (by decide) t_131 2 rfl rfl d_C_toldOfText_60 ?_
        obtain rfl := Option.some.inj hE
        exact g_iret C0 hr d_C_toldOfText_63
      · replace hE := hB.2 c_2
        have hB := ite_some hE
        by_cases c_3 : a0 = 3
        · replace hE := hB.1 c_3
          refine g_tableIn C0 (tgt := 64) (off := 63) d_C_toldOfText_1 (by rw [c_3]; decide) (by rw [c_3]; decide) (by rw [c_3]; rfl) (by decide) ?_
          refine g_aload_n C0 0 d_C_toldOfText_64 rfl rfl ?_
          refine g_getr C0 CK_10 3 (by decide) t_455 0 rfl rfl d_C_toldOfText_65 ?_
          refine g_getiN C0 CK_7 4 (by decide) t_135 2 rfl rfl d_C_toldOfText_68 ?_
          obtain rfl := Option.some.inj hE
          exact g_iret C0 hr d_C_toldOfText_71
        · replace hE := hB.2 c_3
          have hB := ite_some hE
          by_cases c_4 : a0 = 4
          · replace hE := hB.1 c_4
            refine g_tableIn C0 (tgt := 72) (off := 71) d_C_toldOfText_1 (by rw [c_4]; decide) (by rw [c_4]; decide) (by rw [c_4]; rfl) (by decide) ?_
            refine g_aload_n C0 0 d_C_toldOfText_72 rfl rfl ?_
            refine g_getr C0 CK_10 3 (by decide) t_455 0 rfl rfl d_C_toldOfText_73 ?_
            refine g_getiN C0 CK_7 5 (by decide) t_139 2 rfl rfl d_C_toldOfText_76 ?_
            obtain rfl := Option.some.inj hE
            exact g_iret C0 hr d_C_toldOfText_79
          · replace hE := hB.2 c_4
            have hB := ite_some hE
            by_cases c_5 : a0 = 5
            · replace hE := hB.1 c_5
              refine g_tableIn C0 (tgt := 80) (off := 79) d_C_toldOfText_1 (by rw [c_5]; decide) (by rw [c_5]; decide) (by rw [c_5]; rfl) (by decide) ?_
              refine g_aload_n C0 0 d_C_toldOfText_80 rfl rfl ?_
              refine g_getr C0 CK_10 3 (by decide) t_455 0 rfl rfl d_C_toldOfText_81 ?_
              refine g_getiN C0 CK_7 6 (by decide) t_143 2 rfl rfl d_C_toldOfText_84 ?_
              obtain rfl := Option.some.inj hE
              exact g_iret C0 hr d_C_toldOfText_87
            · replace hE := hB.2 c_5
              refine g_tableOut C0 (tgt := 88) d_C_toldOfText_1 (by have n_0 := i32_ne (j := 0) c_0 (by decide) (by decide); have n_1 := i32_ne (j := 1) c_1 (by decide) (by decide); have n_2 := i32_ne (j := 2) c_2 (by decide) (by decide); have n_3 := i32_ne (j := 3) c_3 (by decide) (by decide); have n_4 := i32_ne (j := 4) c_4 (by decide) (by decide); have n_5 := i32_ne (j := 5) c_5 (by decide) (by decide); omega) (by decide) ?_
              refine g_aload_n C0 0 d_C_toldOfText_88 rfl rfl ?_
              refine g_geti C0 CK_10 1 (by decide) t_453 0 rfl rfl d_C_toldOfText_89 ?_
              obtain rfl := Option.some.inj hE
              exact g_iret C0 hr d_C_toldOfText_92
theorem m_C_toldOfText (l : Launch) (K : KT) (ad : Nat → Nat) (h : Hp) (a0 : Int32) {res : Int32} (hE : K_C_toldOfText a0 h = some res) : ConI l y_C_toldOfText prog_1_method_43_code 2 (Option.some Jvm.ClassFile.FieldType.int) rm_C_toldOfText K WC ad h [.ref (ad 0), .int a0] res h := fun sz =>
  con_start [(0, .ref (ad 0)), (1, .int a0)] (by decide +kernel) rfl (Nat.le_of_ble_eq_true rfl) (fun p e s m args below meth c C0 hr hnm hsz => w_C_toldOfText C0 hr a0 h hE)
abbrev y_C_placeOf : MethodName := ⟨"CanoeSides", "placeOf", "(I)I"⟩
abbrev rm_C_placeOf : Room := { frames := 0, cells := 0, slots := 0, locals := 0 }
theorem cd_C_placeOf : cwd y_C_placeOf 1 := by decide +kernel
theorem d_C_placeOf_0 : decode prog_1_method_36_code 0 = .ok (.bipush 10, 2) := by decide +kernel
theorem d_C_placeOf_2 : decode prog_1_method_36_code 2 = .ok (.iload_n 0, 1) := by decide +kernel
theorem d_C_placeOf_3 : decode prog_1_method_36_code 3 = .ok (.bipush 8, 2) := by decide +kernel
theorem d_C_placeOf_5 : decode prog_1_method_36_code 5 = .ok (.irem, 1) := by decide +kernel
theorem d_C_placeOf_6 : decode prog_1_method_36_code 6 = .ok (.imul, 1) := by decide +kernel
theorem d_C_placeOf_7 : decode prog_1_method_36_code 7 = .ok (.iload_n 0, 1) := by decide +kernel
theorem d_C_placeOf_8 : decode prog_1_method_36_code 8 = .ok (.bipush 8, 2) := by decide +kernel
theorem d_C_placeOf_10 : decode prog_1_method_36_code 10 = .ok (.idiv, 1) := by decide +kernel
theorem d_C_placeOf_11 : decode prog_1_method_36_code 11 = .ok (.iadd, 1) := by decide +kernel
theorem d_C_placeOf_12 : decode prog_1_method_36_code 12 = .ok (.ireturn, 1) := by decide +kernel
theorem w_C_placeOf {p : Program} {l : Launch} {e : Env} {s : State} {m : MethodId} {args : Array Value} {below : List Frame} {meth : Method} {c : Code} {K : KT} {A : Nat → Prop} (C0 : Cx p s m args meth c prog_1_method_36_code "CanoeSides" 1 K A) (hr : meth.sig.returnType = (Option.some Jvm.ClassFile.FieldType.int)) {ad : Nat → Nat} (a0 : Int32) (h : Hp) {res : Int32} (hE : K_C_placeOf a0 = some res) : G p l e rm_C_placeOf s m args below meth c K A WE 1 0 0 (QI s args below K A WE 0 0 ad res h) 0 [(0, .int a0)] [] ad h := by
  unfold K_C_placeOf at hE
  refine g_bipush C0 (v := 10) d_C_placeOf_0 (by decide) ?_
  refine g_iload_n C0 0 d_C_placeOf_2 rfl rfl ?_
  refine g_bipush C0 (v := 8) d_C_placeOf_3 (by decide) ?_
  refine g_irem C0 d_C_placeOf_5 (by decide) ?_
  refine g_imul C0 d_C_placeOf_6 ?_
  refine g_iload_n C0 0 d_C_placeOf_7 rfl rfl ?_
  refine g_bipush C0 (v := 8) d_C_placeOf_8 (by decide) ?_
  refine g_idiv C0 d_C_placeOf_10 (by decide) ?_
  refine g_iadd C0 d_C_placeOf_11 ?_
  obtain rfl := Option.some.inj hE
  exact g_iret C0 hr d_C_placeOf_12
theorem m_C_placeOf (l : Launch) (K : KT) (ad : Nat → Nat) (h : Hp) (a0 : Int32) {res : Int32} (hE : K_C_placeOf a0 = some res) : ConI l y_C_placeOf prog_1_method_36_code 1 (Option.some Jvm.ClassFile.FieldType.int) rm_C_placeOf K WE ad h [.int a0] res h := fun sz =>
  con_start [(0, .int a0)] (by decide +kernel) rfl (Nat.le_of_ble_eq_true rfl) (fun p e s m args below meth c C0 hr hnm hsz => w_C_placeOf C0 hr a0 h hE)
abbrev y_C_toldOfTrip : MethodName := ⟨"CanoeSides", "toldOfTrip", "(I)I"⟩
abbrev rm_C_toldOfTrip : Room := { frames := 1, cells := 0, slots := 0, locals := 20 }
theorem cd_C_toldOfTrip : cwd y_C_toldOfTrip 1 := by decide +kernel
theorem d_C_toldOfTrip_0 : decode prog_1_method_44_code 0 = .ok (.iload_n 1, 1) := by decide +kernel
theorem d_C_toldOfTrip_1 : decode prog_1_method_44_code 1 = .ok (.tableswitch 114 7 12 #[39, 53, 64, 72, 98, 106], 39) := by decide +kernel
theorem d_C_toldOfTrip_40 : decode prog_1_method_44_code 40 = .ok (.aload_n 0, 1) := by decide +kernel
theorem d_C_toldOfTrip_41 : decode prog_1_method_44_code 41 = .ok (.getfield 49, 3) := by decide +kernel
theorem d_C_toldOfTrip_44 : decode prog_1_method_44_code 44 = .ok (.getfield 152, 3) := by decide +kernel
theorem d_C_toldOfTrip_47 : decode prog_1_method_44_code 47 = .ok (.bipush 8, 2) := by decide +kernel
theorem d_C_toldOfTrip_49 : decode prog_1_method_44_code 49 = .ok (.idiv, 1) := by decide +kernel
theorem d_C_toldOfTrip_50 : decode prog_1_method_44_code 50 = .ok (.invokestatic 155, 3) := by decide +kernel
theorem d_C_toldOfTrip_53 : decode prog_1_method_44_code 53 = .ok (.ireturn, 1) := by decide +kernel
theorem d_C_toldOfTrip_54 : decode prog_1_method_44_code 54 = .ok (.aload_n 0, 1) := by decide +kernel
theorem d_C_toldOfTrip_55 : decode prog_1_method_44_code 55 = .ok (.getfield 49, 3) := by decide +kernel
theorem d_C_toldOfTrip_58 : decode prog_1_method_44_code 58 = .ok (.getfield 152, 3) := by decide +kernel
theorem d_C_toldOfTrip_61 : decode prog_1_method_44_code 61 = .ok (.invokestatic 168, 3) := by decide +kernel
theorem d_C_toldOfTrip_64 : decode prog_1_method_44_code 64 = .ok (.ireturn, 1) := by decide +kernel
theorem d_C_toldOfTrip_65 : decode prog_1_method_44_code 65 = .ok (.aload_n 0, 1) := by decide +kernel
theorem d_C_toldOfTrip_66 : decode prog_1_method_44_code 66 = .ok (.getfield 49, 3) := by decide +kernel
theorem d_C_toldOfTrip_69 : decode prog_1_method_44_code 69 = .ok (.getfield 183, 3) := by decide +kernel
theorem d_C_toldOfTrip_72 : decode prog_1_method_44_code 72 = .ok (.ireturn, 1) := by decide +kernel
theorem d_C_toldOfTrip_73 : decode prog_1_method_44_code 73 = .ok (.aload_n 0, 1) := by decide +kernel
theorem d_C_toldOfTrip_74 : decode prog_1_method_44_code 74 = .ok (.getfield 23, 3) := by decide +kernel
theorem d_C_toldOfTrip_77 : decode prog_1_method_44_code 77 = .ok (.getfield 319, 3) := by decide +kernel
theorem d_C_toldOfTrip_80 : decode prog_1_method_44_code 80 = .ok (.iconst (-1), 1) := by decide +kernel
theorem d_C_toldOfTrip_81 : decode prog_1_method_44_code 81 = .ok (.if_icmp .ne 7, 3) := by decide +kernel
theorem d_C_toldOfTrip_84 : decode prog_1_method_44_code 84 = .ok (.iconst (-1), 1) := by decide +kernel
theorem d_C_toldOfTrip_85 : decode prog_1_method_44_code 85 = .ok (.goto 13, 3) := by decide +kernel
theorem d_C_toldOfTrip_88 : decode prog_1_method_44_code 88 = .ok (.aload_n 0, 1) := by decide +kernel
theorem d_C_toldOfTrip_89 : decode prog_1_method_44_code 89 = .ok (.getfield 23, 3) := by decide +kernel
theorem d_C_toldOfTrip_92 : decode prog_1_method_44_code 92 = .ok (.getfield 319, 3) := by decide +kernel
theorem d_C_toldOfTrip_95 : decode prog_1_method_44_code 95 = .ok (.invokestatic 155, 3) := by decide +kernel
theorem d_C_toldOfTrip_98 : decode prog_1_method_44_code 98 = .ok (.ireturn, 1) := by decide +kernel
theorem d_C_toldOfTrip_99 : decode prog_1_method_44_code 99 = .ok (.aload_n 0, 1) := by decide +kernel
theorem d_C_toldOfTrip_100 : decode prog_1_method_44_code 100 = .ok (.getfield 23, 3) := by decide +kernel
theorem d_C_toldOfTrip_103 : decode prog_1_method_44_code 103 = .ok (.getfield 322, 3) := by decide +kernel
theorem d_C_toldOfTrip_106 : decode prog_1_method_44_code 106 = .ok (.ireturn, 1) := by decide +kernel
theorem d_C_toldOfTrip_107 : decode prog_1_method_44_code 107 = .ok (.aload_n 0, 1) := by decide +kernel
theorem d_C_toldOfTrip_108 : decode prog_1_method_44_code 108 = .ok (.getfield 23, 3) := by decide +kernel
theorem d_C_toldOfTrip_111 : decode prog_1_method_44_code 111 = .ok (.getfield 325, 3) := by decide +kernel
theorem d_C_toldOfTrip_114 : decode prog_1_method_44_code 114 = .ok (.ireturn, 1) := by decide +kernel
theorem d_C_toldOfTrip_115 : decode prog_1_method_44_code 115 = .ok (.aload_n 0, 1) := by decide +kernel
theorem d_C_toldOfTrip_116 : decode prog_1_method_44_code 116 = .ok (.getfield 23, 3) := by decide +kernel
theorem d_C_toldOfTrip_119 : decode prog_1_method_44_code 119 = .ok (.getfield 328, 3) := by decide +kernel
theorem d_C_toldOfTrip_122 : decode prog_1_method_44_code 122 = .ok (.ireturn, 1) := by decide +kernel
theorem w_C_toldOfTrip {p : Program} {l : Launch} {e : Env} {s : State} {m : MethodId} {args : Array Value} {below : List Frame} {meth : Method} {c : Code} {K : KT} {A : Nat → Prop} (C0 : Cx p s m args meth c prog_1_method_44_code "CanoeSides" 2 K A) (hr : meth.sig.returnType = (Option.some Jvm.ClassFile.FieldType.int)) {ad : Nat → Nat} (a0 : Int32) (h : Hp) {res : Int32} (hE : K_C_toldOfTrip a0 h = some res) : G p l e rm_C_toldOfTrip s m args below meth c K A WC 2 0 0 (QI s args below K A WC 0 0 ad res h) 0 [(0, .ref (ad 0)), (1, .int a0)] [] ad h := by
  unfold K_C_toldOfTrip at hE
  refine g_iload_n C0 1 d_C_toldOfTrip_0 rfl rfl ?_
  have hB := ite_some hE
  by_cases c_0 : a0 = 7
  · replace hE := hB.1 c_0
    refine g_tableIn C0 (tgt := 40) (off := 39) d_C_toldOfTrip_1 (by rw [c_0]; decide) (by rw [c_0]; decide) (by rw [c_0]; rfl) (by decide) ?_
    refine g_aload_n C0 0 d_C_toldOfTrip_40 rfl rfl ?_
    refine g_getr C0 CK_10 7 (by decide) t_459 0 rfl rfl d_C_toldOfTrip_41 ?_
    refine g_getiN C0 CK_0 0 (by decide) t_235 14 rfl rfl d_C_toldOfTrip_44 ?_
    refine g_bipush C0 (v := 8) d_C_toldOfTrip_47 (by decide) ?_
    refine g_idiv C0 d_C_toldOfTrip_49 (by decide) ?_
    obtain ⟨v50, z50, hE⟩ := bd_some hE
    refine g_calliP C0 nd_C [] rfl (sb_E_C) (runS C0 (m_C_placeOf l K ad h ((h 30 0) / 8) z50) 1 ⟨t_719, t_720, t_85, t_721⟩ cd_C_placeOf (by decide) (sb_E_C) nd_E rfl rfl (Nat.le_of_ble_eq_true rfl) d_C_toldOfTrip_50) ?_
    obtain rfl := Option.some.inj hE
    exact g_iret C0 hr d_C_toldOfTrip_53
  · replace hE := hB.2 c_0
    have hB := ite_some hE
    by_cases c_1 : a0 = 8
    · replace hE := hB.1 c_1
      refine g_tableIn C0 (tgt := 54) (off := 53) d_C_toldOfTrip_1 (by rw [c_1]; decide) (by rw [c_1]; decide) (by rw [c_1]; rfl) (by decide) ?_
      refine g_aload_n C0 0 d_C_toldOfTrip_54 rfl rfl ?_
      refine g_getr C0 CK_10 7 (by decide) t_459 0 rfl rfl d_C_toldOfTrip_55 ?_
      refine g_getiN C0 CK_0 0 (by decide) t_235 14 rfl rfl d_C_toldOfTrip_58 ?_
      obtain ⟨v61, z61, hE⟩ := bd_some hE
      refine g_calliP C0 nd_C [] rfl (sb_E_C) (runS C0 (m_C_headingOf l K ad h (h 30 0) z61) 1 ⟨t_722, t_723, t_85, t_724⟩ cd_C_headingOf (by decide) (sb_E_C) nd_E rfl rfl (Nat.le_of_ble_eq_true rfl) d_C_toldOfTrip_61) ?_
      obtain rfl := Option.some.inj hE
      exact g_iret C0 hr d_C_toldOfTrip_64
    · replace hE := hB.2 c_1
      have hB := ite_some hE
      by_cases c_2 : a0 = 9
      · replace hE := hB.1 c_2
        refine g_tableIn C0 (tgt := 65) (off := 64) d_C_toldOfTrip_1 (by rw [c_2]; decide) (by rw [c_2]; decide) (by rw [c_2]; rfl) (by decide) ?_
        refine g_aload_n C0 0 d_C_toldOfTrip_65 rfl rfl ?_
        refine g_getr C0 CK_10 7 (by decide) t_459 0 rfl rfl d_C_toldOfTrip_66 ?_
        refine g_getiN C0 CK_0 1 (by decide) t_237 14 rfl rfl d_C_toldOfTrip_69 ?_
        obtain rfl := Option.some.inj hE
        exact g_iret C0 hr d_C_toldOfTrip_72
      · replace hE := hB.2 c_2
        have hB := ite_some hE
        by_cases c_3 : a0 = 10
        · replace hE := hB.1 c_3
          refine g_tableIn C0 (tgt := 73) (off := 72) d_C_toldOfTrip_1 (by rw [c_3]; decide) (by rw [c_3]; decide) (by rw [c_3]; rfl) (by decide) ?_
          refine g_aload_n C0 0 d_C_toldOfTrip_73 rfl rfl ?_
          refine g_getr C0 CK_10 3 (by decide) t_455 0 rfl rfl d_C_toldOfTrip_74 ?_
          refine g_getiN C0 CK_7 8 (by decide) t_152 2 rfl rfl d_C_toldOfTrip_77 ?_
          refine g_iconst C0 (v := (-1)) d_C_toldOfTrip_80 (by decide) ?_
          have hB := ite_some hE
          refine g_icmp_ne C0 (tgt := 88) d_C_toldOfTrip_81 (by decide) (fun c_ => ?_) (fun c_ => ?_)
          · replace hE := hB.2 c_
            refine g_aload_n C0 0 d_C_toldOfTrip_88 rfl rfl ?_
            refine g_getr C0 CK_10 3 (by decide) t_455 0 rfl rfl d_C_toldOfTrip_89 ?_
            refine g_getiN C0 CK_7 8 (by decide) t_152 2 rfl rfl d_C_toldOfTrip_92 ?_
            obtain ⟨v95, z95, hE⟩ := bd_some hE
            refine g_calliP C0 nd_C [] rfl (sb_E_C) (runS C0 (m_C_placeOf l K ad h (h 10 8) z95) 1 ⟨t_719, t_720, t_85, t_721⟩ cd_C_placeOf (by decide) (sb_E_C) nd_E rfl rfl (Nat.le_of_ble_eq_true rfl) d_C_toldOfTrip_95) ?_
            obtain rfl := Option.some.inj hE
            exact g_iret C0 hr d_C_toldOfTrip_98
          · replace hE := hB.1 c_
            refine g_iconst C0 (v := (-1)) d_C_toldOfTrip_84 (by decide) ?_
            refine g_goto C0 (tgt := 98) d_C_toldOfTrip_85 (by decide) ?_
            obtain rfl := Option.some.inj hE
            exact g_iret C0 hr d_C_toldOfTrip_98
        · replace hE := hB.2 c_3
          have hB := ite_some hE
          by_cases c_4 : a0 = 11
          · replace hE := hB.1 c_4
            refine g_tableIn C0 (tgt := 99) (off := 98) d_C_toldOfTrip_1 (by rw [c_4]; decide) (by rw [c_4]; decide) (by rw [c_4]; rfl) (by decide) ?_
            refine g_aload_n C0 0 d_C_toldOfTrip_99 rfl rfl ?_
            refine g_getr C0 CK_10 3 (by decide) t_455 0 rfl rfl d_C_toldOfTrip_100 ?_
            refine g_getiN C0 CK_7 9 (by decide) t_155 2 rfl rfl d_C_toldOfTrip_103 ?_
            obtain rfl := Option.some.inj hE
            exact g_iret C0 hr d_C_toldOfTrip_106
          · replace hE := hB.2 c_4
            have hB := ite_some hE
            by_cases c_5 : a0 = 12
            · replace hE := hB.1 c_5
              refine g_tableIn C0 (tgt := 107) (off := 106) d_C_toldOfTrip_1 (by rw [c_5]; decide) (by rw [c_5]; decide) (by rw [c_5]; rfl) (by decide) ?_
              refine g_aload_n C0 0 d_C_toldOfTrip_107 rfl rfl ?_
              refine g_getr C0 CK_10 3 (by decide) t_455 0 rfl rfl d_C_toldOfTrip_108 ?_
              refine g_getiN C0 CK_7 10 (by decide) t_159 2 rfl rfl d_C_toldOfTrip_111 ?_
              obtain rfl := Option.some.inj hE
              exact g_iret C0 hr d_C_toldOfTrip_114
            · replace hE := hB.2 c_5
              refine g_tableOut C0 (tgt := 115) d_C_toldOfTrip_1 (by have n_0 := i32_ne (j := 7) c_0 (by decide) (by decide); have n_1 := i32_ne (j := 8) c_1 (by decide) (by decide); have n_2 := i32_ne (j := 9) c_2 (by decide) (by decide); have n_3 := i32_ne (j := 10) c_3 (by decide) (by decide); have n_4 := i32_ne (j := 11) c_4 (by decide) (by decide); have n_5 := i32_ne (j := 12) c_5 (by decide) (by decide); omega) (by decide) ?_
              refine g_aload_n C0 0 d_C_toldOfTrip_115 rfl rfl ?_
              refine g_getr C0 CK_10 3 (by decide) t_455 0 rfl rfl d_C_toldOfTrip_116 ?_
              refine g_getiN C0 CK_7 11 (by decide) t_163 2 rfl rfl d_C_toldOfTrip_119 ?_
              obtain rfl := Option.some.inj hE
              exact g_iret C0 hr d_C_toldOfTrip_122
theorem m_C_toldOfTrip (l : Launch) (K : KT) (ad : Nat → Nat) (h : Hp) (a0 : Int32) {res : Int32} (hE : K_C_toldOfTrip a0 h = some res) : ConI l y_C_toldOfTrip prog_1_method_44_code 2 (Option.some Jvm.ClassFile.FieldType.int) rm_C_toldOfTrip K WC ad h [.ref (ad 0), .int a0] res h := fun sz =>
  con_start [(0, .ref (ad 0)), (1, .int a0)] (by decide +kernel) rfl (Nat.le_of_ble_eq_true rfl) (fun p e s m args below meth c C0 hr hnm hsz => w_C_toldOfTrip C0 hr a0 h hE)
abbrev y_C_toldOfCounts : MethodName := ⟨"CanoeSides", "toldOfCounts", "(I)I"⟩
abbrev rm_C_toldOfCounts : Room := { frames := 1, cells := 0, slots := 0, locals := 21 }
theorem cd_C_toldOfCounts : cwd y_C_toldOfCounts 1 := by decide +kernel
theorem d_C_toldOfCounts_0 : decode prog_1_method_45_code 0 = .ok (.iload_n 1, 1) := by decide +kernel
theorem d_C_toldOfCounts_1 : decode prog_1_method_45_code 1 = .ok (.tableswitch 66 14 16 #[27, 50, 58], 27) := by decide +kernel
theorem d_C_toldOfCounts_28 : decode prog_1_method_45_code 28 = .ok (.aload_n 0, 1) := by decide +kernel
theorem d_C_toldOfCounts_29 : decode prog_1_method_45_code 29 = .ok (.getfield 23, 3) := by decide +kernel
theorem d_C_toldOfCounts_32 : decode prog_1_method_45_code 32 = .ok (.aload_n 0, 1) := by decide +kernel
theorem d_C_toldOfCounts_33 : decode prog_1_method_45_code 33 = .ok (.getfield 49, 3) := by decide +kernel
theorem d_C_toldOfCounts_36 : decode prog_1_method_45_code 36 = .ok (.getfield 152, 3) := by decide +kernel
theorem d_C_toldOfCounts_39 : decode prog_1_method_45_code 39 = .ok (.invokevirtual 331, 3) := by decide +kernel
theorem d_C_toldOfCounts_42 : decode prog_1_method_45_code 42 = .ok (.ifCond .eq 7, 3) := by decide +kernel
theorem d_C_toldOfCounts_45 : decode prog_1_method_45_code 45 = .ok (.iconst 1, 1) := by decide +kernel
theorem d_C_toldOfCounts_46 : decode prog_1_method_45_code 46 = .ok (.goto 4, 3) := by decide +kernel
theorem d_C_toldOfCounts_49 : decode prog_1_method_45_code 49 = .ok (.iconst 0, 1) := by decide +kernel
theorem d_C_toldOfCounts_50 : decode prog_1_method_45_code 50 = .ok (.ireturn, 1) := by decide +kernel
theorem d_C_toldOfCounts_51 : decode prog_1_method_45_code 51 = .ok (.aload_n 0, 1) := by decide +kernel
theorem d_C_toldOfCounts_52 : decode prog_1_method_45_code 52 = .ok (.getfield 67, 3) := by decide +kernel
theorem d_C_toldOfCounts_55 : decode prog_1_method_45_code 55 = .ok (.getfield 245, 3) := by decide +kernel
theorem d_C_toldOfCounts_58 : decode prog_1_method_45_code 58 = .ok (.ireturn, 1) := by decide +kernel
theorem d_C_toldOfCounts_59 : decode prog_1_method_45_code 59 = .ok (.aload_n 0, 1) := by decide +kernel
theorem d_C_toldOfCounts_60 : decode prog_1_method_45_code 60 = .ok (.getfield 67, 3) := by decide +kernel
theorem d_C_toldOfCounts_63 : decode prog_1_method_45_code 63 = .ok (.getfield 265, 3) := by decide +kernel
theorem d_C_toldOfCounts_66 : decode prog_1_method_45_code 66 = .ok (.ireturn, 1) := by decide +kernel
theorem d_C_toldOfCounts_67 : decode prog_1_method_45_code 67 = .ok (.aload_n 0, 1) := by decide +kernel
theorem d_C_toldOfCounts_68 : decode prog_1_method_45_code 68 = .ok (.getfield 60, 3) := by decide +kernel
theorem d_C_toldOfCounts_71 : decode prog_1_method_45_code 71 = .ok (.getfield 177, 3) := by decide +kernel
theorem d_C_toldOfCounts_74 : decode prog_1_method_45_code 74 = .ok (.ireturn, 1) := by decide +kernel
theorem w_C_toldOfCounts {p : Program} {l : Launch} {e : Env} {s : State} {m : MethodId} {args : Array Value} {below : List Frame} {meth : Method} {c : Code} {K : KT} {A : Nat → Prop} (C0 : Cx p s m args meth c prog_1_method_45_code "CanoeSides" 2 K A) (hr : meth.sig.returnType = (Option.some Jvm.ClassFile.FieldType.int)) {ad : Nat → Nat} (a0 : Int32) (h : Hp) {res : Int32} (hE : K_C_toldOfCounts a0 h = some res) : G p l e rm_C_toldOfCounts s m args below meth c K A WC 2 0 0 (QI s args below K A WC 0 0 ad res h) 0 [(0, .ref (ad 0)), (1, .int a0)] [] ad h := by
  unfold K_C_toldOfCounts at hE
  refine g_iload_n C0 1 d_C_toldOfCounts_0 rfl rfl ?_
  have hB := ite_some hE
  by_cases c_0 : a0 = 14
  · replace hE := hB.1 c_0
    refine g_tableIn C0 (tgt := 28) (off := 27) d_C_toldOfCounts_1 (by rw [c_0]; decide) (by rw [c_0]; decide) (by rw [c_0]; rfl) (by decide) ?_
    refine g_aload_n C0 0 d_C_toldOfCounts_28 rfl rfl ?_
    refine g_getr C0 CK_10 3 (by decide) t_455 0 rfl rfl d_C_toldOfCounts_29 ?_
    refine g_aload_n C0 0 d_C_toldOfCounts_32 rfl rfl ?_
    refine g_getr C0 CK_10 7 (by decide) t_459 0 rfl rfl d_C_toldOfCounts_33 ?_
    refine g_getiN C0 CK_0 0 (by decide) t_235 14 rfl rfl d_C_toldOfCounts_36 ?_
    obtain ⟨v39, z39, hE⟩ := bd_some hE
    refine g_calliP C0 nd_C [10, 11, 12] rfl (sb_River_C) (runV C0 (m_River_isGoal l K ad h (h 30 0) z39) 1 rfl ⟨t_729, t_730, t_731, t_86, t_732⟩ cd_River_isGoal (by decide) 2 rfl rfl (sb_River_C) nd_River rfl rfl (Nat.le_of_ble_eq_true rfl) d_C_toldOfCounts_39) ?_
    have hB := ite_some hE
    refine g_if_eq C0 (tgt := 49) d_C_toldOfCounts_42 (by decide) (fun c_ => ?_) (fun c_ => ?_)
    · replace hE := hB.1 c_
      refine g_iconst C0 (v := 0) d_C_toldOfCounts_49 (by decide) ?_
      obtain rfl := Option.some.inj hE
      exact g_iret C0 hr d_C_toldOfCounts_50
    · replace hE := hB.2 c_
      refine g_iconst C0 (v := 1) d_C_toldOfCounts_45 (by decide) ?_
      refine g_goto C0 (tgt := 50) d_C_toldOfCounts_46 (by decide) ?_
      obtain rfl := Option.some.inj hE
      exact g_iret C0 hr d_C_toldOfCounts_50
  · replace hE := hB.2 c_0
    have hB := ite_some hE
    by_cases c_1 : a0 = 15
    · replace hE := hB.1 c_1
      refine g_tableIn C0 (tgt := 51) (off := 50) d_C_toldOfCounts_1 (by rw [c_1]; decide) (by rw [c_1]; decide) (by rw [c_1]; rfl) (by decide) ?_
      refine g_aload_n C0 0 d_C_toldOfCounts_51 rfl rfl ?_
      refine g_getr C0 CK_10 10 (by decide) t_462 0 rfl rfl d_C_toldOfCounts_52 ?_
      refine g_getiN C0 CK_4 4 (by decide) t_276 29 rfl rfl d_C_toldOfCounts_55 ?_
      obtain rfl := Option.some.inj hE
      exact g_iret C0 hr d_C_toldOfCounts_58
    · replace hE := hB.2 c_1
      have hB := ite_some hE
      by_cases c_2 : a0 = 16
      · replace hE := hB.1 c_2
        refine g_tableIn C0 (tgt := 59) (off := 58) d_C_toldOfCounts_1 (by rw [c_2]; decide) (by rw [c_2]; decide) (by rw [c_2]; rfl) (by decide) ?_
        refine g_aload_n C0 0 d_C_toldOfCounts_59 rfl rfl ?_
        refine g_getr C0 CK_10 10 (by decide) t_462 0 rfl rfl d_C_toldOfCounts_60 ?_
        refine g_getiN C0 CK_4 5 (by decide) t_278 29 rfl rfl d_C_toldOfCounts_63 ?_
        obtain rfl := Option.some.inj hE
        exact g_iret C0 hr d_C_toldOfCounts_66
      · replace hE := hB.2 c_2
        refine g_tableOut C0 (tgt := 67) d_C_toldOfCounts_1 (by have n_0 := i32_ne (j := 14) c_0 (by decide) (by decide); have n_1 := i32_ne (j := 15) c_1 (by decide) (by decide); have n_2 := i32_ne (j := 16) c_2 (by decide) (by decide); omega) (by decide) ?_
        refine g_aload_n C0 0 d_C_toldOfCounts_67 rfl rfl ?_
        refine g_getr C0 CK_10 9 (by decide) t_461 0 rfl rfl d_C_toldOfCounts_68 ?_
        refine g_getiN C0 CK_5 2 (by decide) t_257 16 rfl rfl d_C_toldOfCounts_71 ?_
        obtain rfl := Option.some.inj hE
        exact g_iret C0 hr d_C_toldOfCounts_74
theorem m_C_toldOfCounts (l : Launch) (K : KT) (ad : Nat → Nat) (h : Hp) (a0 : Int32) {res : Int32} (hE : K_C_toldOfCounts a0 h = some res) : ConI l y_C_toldOfCounts prog_1_method_45_code 2 (Option.some Jvm.ClassFile.FieldType.int) rm_C_toldOfCounts K WC ad h [.ref (ad 0), .int a0] res h := fun sz =>
  con_start [(0, .ref (ad 0)), (1, .int a0)] (by decide +kernel) rfl (Nat.le_of_ble_eq_true rfl) (fun p e s m args below meth c C0 hr hnm hsz => w_C_toldOfCounts C0 hr a0 h hE)
abbrev y_C_told : MethodName := ⟨"CanoeSides", "told", "(I)I"⟩
abbrev rm_C_told : Room := { frames := 2, cells := 0, slots := 0, locals := 42 }
theorem cd_C_told : cwd y_C_told 1 := by decide +kernel
theorem d_C_told_0 : decode prog_1_method_5_code 0 = .ok (.iload_n 1, 1) := by decide +kernel
theorem d_C_told_1 : decode prog_1_method_5_code 1 = .ok (.iconst 0, 1) := by decide +kernel
theorem d_C_told_2 : decode prog_1_method_5_code 2 = .ok (.bipush 17, 2) := by decide +kernel
theorem d_C_told_4 : decode prog_1_method_5_code 4 = .ok (.invokestatic 96, 3) := by decide +kernel
theorem d_C_told_7 : decode prog_1_method_5_code 7 = .ok (.ifCond .eq 6, 3) := by decide +kernel
theorem d_C_told_10 : decode prog_1_method_5_code 10 = .ok (.ldc 100, 2) := by decide +kernel
theorem d_C_told_12 : decode prog_1_method_5_code 12 = .ok (.ireturn, 1) := by decide +kernel
theorem d_C_told_13 : decode prog_1_method_5_code 13 = .ok (.iload_n 1, 1) := by decide +kernel
theorem d_C_told_14 : decode prog_1_method_5_code 14 = .ok (.bipush 7, 2) := by decide +kernel
theorem d_C_told_16 : decode prog_1_method_5_code 16 = .ok (.if_icmp .ge 11, 3) := by decide +kernel
theorem d_C_told_19 : decode prog_1_method_5_code 19 = .ok (.aload_n 0, 1) := by decide +kernel
theorem d_C_told_20 : decode prog_1_method_5_code 20 = .ok (.iload_n 1, 1) := by decide +kernel
theorem d_C_told_21 : decode prog_1_method_5_code 21 = .ok (.invokevirtual 121, 3) := by decide +kernel
theorem d_C_told_24 : decode prog_1_method_5_code 24 = .ok (.goto 22, 3) := by decide +kernel
theorem d_C_told_27 : decode prog_1_method_5_code 27 = .ok (.iload_n 1, 1) := by decide +kernel
theorem d_C_told_28 : decode prog_1_method_5_code 28 = .ok (.bipush 14, 2) := by decide +kernel
theorem d_C_told_30 : decode prog_1_method_5_code 30 = .ok (.if_icmp .ge 11, 3) := by decide +kernel
theorem d_C_told_33 : decode prog_1_method_5_code 33 = .ok (.aload_n 0, 1) := by decide +kernel
theorem d_C_told_34 : decode prog_1_method_5_code 34 = .ok (.iload_n 1, 1) := by decide +kernel
theorem d_C_told_35 : decode prog_1_method_5_code 35 = .ok (.invokevirtual 125, 3) := by decide +kernel
theorem d_C_told_38 : decode prog_1_method_5_code 38 = .ok (.goto 8, 3) := by decide +kernel
theorem d_C_told_41 : decode prog_1_method_5_code 41 = .ok (.aload_n 0, 1) := by decide +kernel
theorem d_C_told_42 : decode prog_1_method_5_code 42 = .ok (.iload_n 1, 1) := by decide +kernel
theorem d_C_told_43 : decode prog_1_method_5_code 43 = .ok (.invokevirtual 128, 3) := by decide +kernel
theorem d_C_told_46 : decode prog_1_method_5_code 46 = .ok (.ireturn, 1) := by decide +kernel
theorem w_C_told {p : Program} {l : Launch} {e : Env} {s : State} {m : MethodId} {args : Array Value} {below : List Frame} {meth : Method} {c : Code} {K : KT} {A : Nat → Prop} (C0 : Cx p s m args meth c prog_1_method_5_code "CanoeSides" 2 K A) (hr : meth.sig.returnType = (Option.some Jvm.ClassFile.FieldType.int)) {ad : Nat → Nat} (a0 : Int32) (h : Hp) {res : Int32} (hE : K_C_told a0 h = some res) : G p l e rm_C_told s m args below meth c K A WC 2 0 0 (QI s args below K A WC 0 0 ad res h) 0 [(0, .ref (ad 0)), (1, .int a0)] [] ad h := by
  unfold K_C_told at hE
  refine g_iload_n C0 1 d_C_told_0 rfl rfl ?_
  refine g_iconst C0 (v := 0) d_C_told_1 (by decide) ?_
  refine g_bipush C0 (v := 17) d_C_told_2 (by decide) ?_
  obtain ⟨v4, z4, hE⟩ := bd_some hE
  refine g_calliP C0 nd_C [] rfl (sb_E_C) (runS C0 (m_C_isOutside l K ad h a0 0 17 z4) 3 ⟨t_499, t_500, t_85, t_501⟩ cd_C_isOutside (by decide) (sb_E_C) nd_E rfl rfl (Nat.le_of_ble_eq_true rfl) d_C_told_4) ?_
  have hB := ite_some hE
  refine g_if_eq C0 (tgt := 13) d_C_told_7 (by decide) (fun c_ => ?_) (fun c_ => ?_)
  · replace hE := hB.1 c_
    refine g_iload_n C0 1 d_C_told_13 rfl rfl ?_
    refine g_bipush C0 (v := 7) d_C_told_14 (by decide) ?_
    have hB := ite_some hE
    refine g_icmp_ge C0 (tgt := 27) d_C_told_16 (by decide) (fun c_ => ?_) (fun c_ => ?_)
    · replace hE := hB.1 c_
      refine g_iload_n C0 1 d_C_told_27 rfl rfl ?_
      refine g_bipush C0 (v := 14) d_C_told_28 (by decide) ?_
      have hB := ite_some hE
      refine g_icmp_ge C0 (tgt := 41) d_C_told_30 (by decide) (fun c_ => ?_) (fun c_ => ?_)
      · replace hE := hB.1 c_
        refine g_aload_n C0 0 d_C_told_41 rfl rfl ?_
        refine g_iload_n C0 1 d_C_told_42 rfl rfl ?_
        obtain ⟨v43, z43, hE⟩ := bd_some hE
        refine g_calliP C0 nd_C [0, 2, 10, 11, 12, 15, 16, 17, 20, 21, 22, 25, 26, 27, 30, 33, 35, 36, 40, 41, 42, 43, 45, 46, 47, 48, 49, 55, 56, 60, 61, 62, 63, 64] rfl (sbW_self WC) (runV C0 (m_C_toldOfCounts l K ad h a0 z43) 1 rfl ⟨t_725, t_727, t_17, t_85, t_728⟩ cd_C_toldOfCounts (by decide) 0 rfl rfl (sbW_self WC) nd_C rfl rfl (Nat.le_of_ble_eq_true rfl) d_C_told_43) ?_
        obtain rfl := Option.some.inj hE
        exact g_iret C0 hr d_C_told_46
      · replace hE := hB.2 c_
        refine g_aload_n C0 0 d_C_told_33 rfl rfl ?_
        refine g_iload_n C0 1 d_C_told_34 rfl rfl ?_
        obtain ⟨v35, z35, hE⟩ := bd_some hE
        refine g_calliP C0 nd_C [0, 2, 10, 11, 12, 15, 16, 17, 20, 21, 22, 25, 26, 27, 30, 33, 35, 36, 40, 41, 42, 43, 45, 46, 47, 48, 49, 55, 56, 60, 61, 62, 63, 64] rfl (sbW_self WC) (runV C0 (m_C_toldOfTrip l K ad h a0 z35) 1 rfl ⟨t_715, t_717, t_16, t_85, t_718⟩ cd_C_toldOfTrip (by decide) 0 rfl rfl (sbW_self WC) nd_C rfl rfl (Nat.le_of_ble_eq_true rfl) d_C_told_35) ?_
        refine g_goto C0 (tgt := 46) d_C_told_38 (by decide) ?_
        obtain rfl := Option.some.inj hE
        exact g_iret C0 hr d_C_told_46
    · replace hE := hB.2 c_
      refine g_aload_n C0 0 d_C_told_19 rfl rfl ?_
      refine g_iload_n C0 1 d_C_told_20 rfl rfl ?_
      obtain ⟨v21, z21, hE⟩ := bd_some hE
      refine g_calliP C0 nd_C [0, 2, 10, 11, 12, 15, 16, 17, 20, 21, 22, 25, 26, 27, 30, 33, 35, 36, 40, 41, 42, 43, 45, 46, 47, 48, 49, 55, 56, 60, 61, 62, 63, 64] rfl (sbW_self WC) (runV C0 (m_C_toldOfText l K ad h a0 z21) 1 rfl ⟨t_711, t_713, t_15, t_85, t_714⟩ cd_C_toldOfText (by decide) 0 rfl rfl (sbW_self WC) nd_C rfl rfl (Nat.le_of_ble_eq_true rfl) d_C_told_21) ?_
      refine g_goto C0 (tgt := 46) d_C_told_24 (by decide) ?_
      obtain rfl := Option.some.inj hE
      exact g_iret C0 hr d_C_told_46
  · replace hE := hB.2 c_
    refine g_ldc C0 (v := (-1000000002)) t_502 d_C_told_10 ?_
    obtain rfl := Option.some.inj hE
    exact g_iret C0 hr d_C_told_12
theorem m_C_told (l : Launch) (K : KT) (ad : Nat → Nat) (h : Hp) (a0 : Int32) {res : Int32} (hE : K_C_told a0 h = some res) : ConI l y_C_told prog_1_method_5_code 2 (Option.some Jvm.ClassFile.FieldType.int) rm_C_told K WC ad h [.ref (ad 0), .int a0] res h := fun sz =>
  con_start [(0, .ref (ad 0)), (1, .int a0)] (by decide +kernel) rfl (Nat.le_of_ble_eq_true rfl) (fun p e s m args below meth c C0 hr hnm hsz => w_C_told C0 hr a0 h hE)
abbrev y_C_square : MethodName := ⟨"CanoeSides", "square", "(II)I"⟩
abbrev rm_C_square : Room := { frames := 1, cells := 0, slots := 0, locals := 22 }
theorem cd_C_square : cwd y_C_square 2 := by decide +kernel
theorem d_C_square_0 : decode prog_1_method_6_code 0 = .ok (.aload_n 0, 1) := by decide +kernel
theorem d_C_square_1 : decode prog_1_method_6_code 1 = .ok (.getfield 23, 3) := by decide +kernel
theorem d_C_square_4 : decode prog_1_method_6_code 4 = .ok (.iload_n 1, 1) := by decide +kernel
theorem d_C_square_5 : decode prog_1_method_6_code 5 = .ok (.iload_n 2, 1) := by decide +kernel
theorem d_C_square_6 : decode prog_1_method_6_code 6 = .ok (.invokevirtual 131, 3) := by decide +kernel
theorem d_C_square_9 : decode prog_1_method_6_code 9 = .ok (.ifCond .eq 19, 3) := by decide +kernel
theorem d_C_square_12 : decode prog_1_method_6_code 12 = .ok (.aload_n 0, 1) := by decide +kernel
theorem d_C_square_13 : decode prog_1_method_6_code 13 = .ok (.getfield 23, 3) := by decide +kernel
theorem d_C_square_16 : decode prog_1_method_6_code 16 = .ok (.iload_n 2, 1) := by decide +kernel
theorem d_C_square_17 : decode prog_1_method_6_code 17 = .ok (.bipush 8, 2) := by decide +kernel
theorem d_C_square_19 : decode prog_1_method_6_code 19 = .ok (.imul, 1) := by decide +kernel
theorem d_C_square_20 : decode prog_1_method_6_code 20 = .ok (.iload_n 1, 1) := by decide +kernel
theorem d_C_square_21 : decode prog_1_method_6_code 21 = .ok (.iadd, 1) := by decide +kernel
theorem d_C_square_22 : decode prog_1_method_6_code 22 = .ok (.invokevirtual 135, 3) := by decide +kernel
theorem d_C_square_25 : decode prog_1_method_6_code 25 = .ok (.goto 5, 3) := by decide +kernel
theorem d_C_square_28 : decode prog_1_method_6_code 28 = .ok (.ldc 138, 2) := by decide +kernel
theorem d_C_square_30 : decode prog_1_method_6_code 30 = .ok (.ireturn, 1) := by decide +kernel
theorem w_C_square {p : Program} {l : Launch} {e : Env} {s : State} {m : MethodId} {args : Array Value} {below : List Frame} {meth : Method} {c : Code} {K : KT} {A : Nat → Prop} (C0 : Cx p s m args meth c prog_1_method_6_code "CanoeSides" 3 K A) (hr : meth.sig.returnType = (Option.some Jvm.ClassFile.FieldType.int)) {ad : Nat → Nat} (a0 : Int32) (b0 : Int32) (h : Hp) {res : Int32} (hE : K_C_square a0 b0 h = some res) : G p l e rm_C_square s m args below meth c K A WC 3 0 0 (QI s args below K A WC 0 0 ad res h) 0 [(0, .ref (ad 0)), (1, .int a0), (2, .int b0)] [] ad h := by
  unfold K_C_square at hE
  refine g_aload_n C0 0 d_C_square_0 rfl rfl ?_
  refine g_getr C0 CK_10 3 (by decide) t_455 0 rfl rfl d_C_square_1 ?_
  refine g_iload_n C0 1 d_C_square_4 rfl rfl ?_
  refine g_iload_n C0 2 d_C_square_5 rfl rfl ?_
  obtain ⟨v6, z6, hE⟩ := bd_some hE
  refine g_calliP C0 nd_C [10, 11, 12] rfl (sb_River_C) (runV C0 (m_River_has l K ad h a0 b0 z6) 2 rfl ⟨t_737, t_738, t_739, t_86, t_740⟩ cd_River_has (by decide) 2 rfl rfl (sb_River_C) nd_River rfl rfl (Nat.le_of_ble_eq_true rfl) d_C_square_6) ?_
  have hB := ite_some hE
  refine g_if_eq C0 (tgt := 28) d_C_square_9 (by decide) (fun c_ => ?_) (fun c_ => ?_)
  · replace hE := hB.1 c_
    refine g_ldc C0 (v := (-1000000001)) t_742 d_C_square_28 ?_
    obtain rfl := Option.some.inj hE
    exact g_iret C0 hr d_C_square_30
  · replace hE := hB.2 c_
    refine g_aload_n C0 0 d_C_square_12 rfl rfl ?_
    refine g_getr C0 CK_10 3 (by decide) t_455 0 rfl rfl d_C_square_13 ?_
    refine g_iload_n C0 2 d_C_square_16 rfl rfl ?_
    refine g_bipush C0 (v := 8) d_C_square_17 (by decide) ?_
    refine g_imul C0 d_C_square_19 ?_
    refine g_iload_n C0 1 d_C_square_20 rfl rfl ?_
    refine g_iadd C0 d_C_square_21 ?_
    obtain ⟨v22, z22, hE⟩ := bd_some hE
    refine g_calliP C0 nd_C [10, 11, 12] rfl (sb_River_C) (runV C0 (m_River_kindOf l K ad h ((b0 * 8) + a0) z22) 1 rfl ⟨t_741, t_408, t_409, t_86, t_410⟩ cd_River_kindOf (by decide) 2 rfl rfl (sb_River_C) nd_River rfl rfl (Nat.le_of_ble_eq_true rfl) d_C_square_22) ?_
    refine g_goto C0 (tgt := 30) d_C_square_25 (by decide) ?_
    obtain rfl := Option.some.inj hE
    exact g_iret C0 hr d_C_square_30
theorem m_C_square (l : Launch) (K : KT) (ad : Nat → Nat) (h : Hp) (a0 : Int32) (b0 : Int32) {res : Int32} (hE : K_C_square a0 b0 h = some res) : ConI l y_C_square prog_1_method_6_code 3 (Option.some Jvm.ClassFile.FieldType.int) rm_C_square K WC ad h [.ref (ad 0), .int a0, .int b0] res h := fun sz =>
  con_start [(0, .ref (ad 0)), (1, .int a0), (2, .int b0)] (by decide +kernel) rfl (Nat.le_of_ble_eq_true rfl) (fun p e s m args below meth c C0 hr hnm hsz => w_C_square C0 hr a0 b0 h hE)
abbrev y_C_habit : MethodName := ⟨"CanoeSides", "habit", "(II)I"⟩
abbrev rm_C_habit : Room := { frames := 1, cells := 0, slots := 0, locals := 23 }
theorem cd_C_habit : cwd y_C_habit 2 := by decide +kernel
theorem d_C_habit_0 : decode prog_1_method_7_code 0 = .ok (.iload_n 1, 1) := by decide +kernel
theorem d_C_habit_1 : decode prog_1_method_7_code 1 = .ok (.iconst 0, 1) := by decide +kernel
theorem d_C_habit_2 : decode prog_1_method_7_code 2 = .ok (.iconst 1, 1) := by decide +kernel
theorem d_C_habit_3 : decode prog_1_method_7_code 3 = .ok (.invokestatic 96, 3) := by decide +kernel
theorem d_C_habit_6 : decode prog_1_method_7_code 6 = .ok (.ifCond .ne 12, 3) := by decide +kernel
theorem d_C_habit_9 : decode prog_1_method_7_code 9 = .ok (.iload_n 2, 1) := by decide +kernel
theorem d_C_habit_10 : decode prog_1_method_7_code 10 = .ok (.iconst 0, 1) := by decide +kernel
theorem d_C_habit_11 : decode prog_1_method_7_code 11 = .ok (.iconst 3, 1) := by decide +kernel
theorem d_C_habit_12 : decode prog_1_method_7_code 12 = .ok (.invokestatic 96, 3) := by decide +kernel
theorem d_C_habit_15 : decode prog_1_method_7_code 15 = .ok (.ifCond .eq 6, 3) := by decide +kernel
theorem d_C_habit_18 : decode prog_1_method_7_code 18 = .ok (.ldc 100, 2) := by decide +kernel
theorem d_C_habit_20 : decode prog_1_method_7_code 20 = .ok (.ireturn, 1) := by decide +kernel
theorem d_C_habit_21 : decode prog_1_method_7_code 21 = .ok (.aload_n 0, 1) := by decide +kernel
theorem d_C_habit_22 : decode prog_1_method_7_code 22 = .ok (.getfield 23, 3) := by decide +kernel
theorem d_C_habit_25 : decode prog_1_method_7_code 25 = .ok (.iload_n 1, 1) := by decide +kernel
theorem d_C_habit_26 : decode prog_1_method_7_code 26 = .ok (.iload_n 2, 1) := by decide +kernel
theorem d_C_habit_27 : decode prog_1_method_7_code 27 = .ok (.invokevirtual 139, 3) := by decide +kernel
theorem d_C_habit_30 : decode prog_1_method_7_code 30 = .ok (.ireturn, 1) := by decide +kernel
theorem w_C_habit {p : Program} {l : Launch} {e : Env} {s : State} {m : MethodId} {args : Array Value} {below : List Frame} {meth : Method} {c : Code} {K : KT} {A : Nat → Prop} (C0 : Cx p s m args meth c prog_1_method_7_code "CanoeSides" 3 K A) (hr : meth.sig.returnType = (Option.some Jvm.ClassFile.FieldType.int)) {ad : Nat → Nat} (a0 : Int32) (b0 : Int32) (h : Hp) {res : Int32} (hE : K_C_habit a0 b0 h = some res) : G p l e rm_C_habit s m args below meth c K A WC 3 0 0 (QI s args below K A WC 0 0 ad res h) 0 [(0, .ref (ad 0)), (1, .int a0), (2, .int b0)] [] ad h := by
  unfold K_C_habit at hE
  refine g_iload_n C0 1 d_C_habit_0 rfl rfl ?_
  refine g_iconst C0 (v := 0) d_C_habit_1 (by decide) ?_
  refine g_iconst C0 (v := 1) d_C_habit_2 (by decide) ?_
  obtain ⟨v3, z3, hE⟩ := bd_some hE
  refine g_calliP C0 nd_C [] rfl (sb_E_C) (runS C0 (m_C_isOutside l K ad h a0 0 1 z3) 3 ⟨t_499, t_500, t_85, t_501⟩ cd_C_isOutside (by decide) (sb_E_C) nd_E rfl rfl (Nat.le_of_ble_eq_true rfl) d_C_habit_3) ?_
  have hB := ite_some hE
  refine g_if_ne C0 (tgt := 18) d_C_habit_6 (by decide) (fun c_ => ?_) (fun c_ => ?_)
  · replace hE := hB.2 c_
    refine g_ldc C0 (v := (-1000000002)) t_502 d_C_habit_18 ?_
    obtain rfl := Option.some.inj hE
    exact g_iret C0 hr d_C_habit_20
  · replace hE := hB.1 c_
    refine g_iload_n C0 2 d_C_habit_9 rfl rfl ?_
    refine g_iconst C0 (v := 0) d_C_habit_10 (by decide) ?_
    refine g_iconst C0 (v := 3) d_C_habit_11 (by decide) ?_
    obtain ⟨v12, z12, hE⟩ := bd_some hE
    refine g_calliP C0 nd_C [] rfl (sb_E_C) (runS C0 (m_C_isOutside l K ad h b0 0 3 z12) 3 ⟨t_499, t_500, t_85, t_501⟩ cd_C_isOutside (by decide) (sb_E_C) nd_E rfl rfl (Nat.le_of_ble_eq_true rfl) d_C_habit_12) ?_
    have hB := ite_some hE
    refine g_if_eq C0 (tgt := 21) d_C_habit_15 (by decide) (fun c_ => ?_) (fun c_ => ?_)
    · replace hE := hB.1 c_
      refine g_aload_n C0 0 d_C_habit_21 rfl rfl ?_
      refine g_getr C0 CK_10 3 (by decide) t_455 0 rfl rfl d_C_habit_22 ?_
      refine g_iload_n C0 1 d_C_habit_25 rfl rfl ?_
      refine g_iload_n C0 2 d_C_habit_26 rfl rfl ?_
      obtain ⟨v27, z27, hE⟩ := bd_some hE
      refine g_calliP C0 nd_C [10, 11, 12] rfl (sb_River_C) (runV C0 (m_River_habitOf l K ad h a0 b0 z27) 2 rfl ⟨t_747, t_748, t_749, t_86, t_750⟩ cd_River_habitOf (by decide) 2 rfl rfl (sb_River_C) nd_River rfl rfl (Nat.le_of_ble_eq_true rfl) d_C_habit_27) ?_
      obtain rfl := Option.some.inj hE
      exact g_iret C0 hr d_C_habit_30
    · replace hE := hB.2 c_
      refine g_ldc C0 (v := (-1000000002)) t_502 d_C_habit_18 ?_
      obtain rfl := Option.some.inj hE
      exact g_iret C0 hr d_C_habit_20
theorem m_C_habit (l : Launch) (K : KT) (ad : Nat → Nat) (h : Hp) (a0 : Int32) (b0 : Int32) {res : Int32} (hE : K_C_habit a0 b0 h = some res) : ConI l y_C_habit prog_1_method_7_code 3 (Option.some Jvm.ClassFile.FieldType.int) rm_C_habit K WC ad h [.ref (ad 0), .int a0, .int b0] res h := fun sz =>
  con_start [(0, .ref (ad 0)), (1, .int a0), (2, .int b0)] (by decide +kernel) rfl (Nat.le_of_ble_eq_true rfl) (fun p e s m args below meth c C0 hr hnm hsz => w_C_habit C0 hr a0 b0 h hE)
abbrev y_C_noSquares : MethodName := ⟨"CanoeSides", "noSquares", "()Z"⟩
abbrev rm_C_noSquares : Room := { frames := 0, cells := 0, slots := 0, locals := 0 }
theorem cd_C_noSquares : cwd y_C_noSquares 0 := by decide +kernel
theorem d_C_noSquares_0 : decode prog_1_method_39_code 0 = .ok (.aload_n 0, 1) := by decide +kernel
theorem d_C_noSquares_1 : decode prog_1_method_39_code 1 = .ok (.getfield 23, 3) := by decide +kernel
theorem d_C_noSquares_4 : decode prog_1_method_39_code 4 = .ok (.getfield 115, 3) := by decide +kernel
theorem d_C_noSquares_7 : decode prog_1_method_39_code 7 = .ok (.ifCond .ne 7, 3) := by decide +kernel
theorem d_C_noSquares_10 : decode prog_1_method_39_code 10 = .ok (.iconst 1, 1) := by decide +kernel
theorem d_C_noSquares_11 : decode prog_1_method_39_code 11 = .ok (.goto 4, 3) := by decide +kernel
theorem d_C_noSquares_14 : decode prog_1_method_39_code 14 = .ok (.iconst 0, 1) := by decide +kernel
theorem d_C_noSquares_15 : decode prog_1_method_39_code 15 = .ok (.ireturn, 1) := by decide +kernel
theorem w_C_noSquares {p : Program} {l : Launch} {e : Env} {s : State} {m : MethodId} {args : Array Value} {below : List Frame} {meth : Method} {c : Code} {K : KT} {A : Nat → Prop} (C0 : Cx p s m args meth c prog_1_method_39_code "CanoeSides" 1 K A) (hr : meth.sig.returnType = (Option.some Jvm.ClassFile.FieldType.boolean)) {ad : Nat → Nat} (h : Hp) {res : Int32} (hE : K_C_noSquares h = some res) : G p l e rm_C_noSquares s m args below meth c K A WC 1 0 0 (QI s args below K A WC 0 0 ad res h) 0 [(0, .ref (ad 0))] [] ad h := by
  unfold K_C_noSquares at hE
  refine g_aload_n C0 0 d_C_noSquares_0 rfl rfl ?_
  refine g_getr C0 CK_10 3 (by decide) t_455 0 rfl rfl d_C_noSquares_1 ?_
  refine g_getiN C0 CK_7 0 (by decide) t_122 2 rfl rfl d_C_noSquares_4 ?_
  have hB := ite_some hE
  refine g_if_ne C0 (tgt := 14) d_C_noSquares_7 (by decide) (fun c_ => ?_) (fun c_ => ?_)
  · replace hE := hB.2 c_
    refine g_iconst C0 (v := 0) d_C_noSquares_14 (by decide) ?_
    obtain rfl := Option.some.inj hE
    exact g_zret C0 hr nz0 d_C_noSquares_15
  · replace hE := hB.1 c_
    refine g_iconst C0 (v := 1) d_C_noSquares_10 (by decide) ?_
    refine g_goto C0 (tgt := 15) d_C_noSquares_11 (by decide) ?_
    obtain rfl := Option.some.inj hE
    exact g_zret C0 hr nz1 d_C_noSquares_15
theorem m_C_noSquares (l : Launch) (K : KT) (ad : Nat → Nat) (h : Hp) {res : Int32} (hE : K_C_noSquares h = some res) : ConI l y_C_noSquares prog_1_method_39_code 1 (Option.some Jvm.ClassFile.FieldType.boolean) rm_C_noSquares K WC ad h [.ref (ad 0)] res h := fun sz =>
  con_start [(0, .ref (ad 0))] (by decide +kernel) rfl (Nat.le_of_ble_eq_true rfl) (fun p e s m args below meth c C0 hr hnm hsz => w_C_noSquares C0 hr h hE)
abbrev y_C_moment : MethodName := ⟨"CanoeSides", "moment", "()I"⟩
abbrev rm_C_moment : Room := { frames := 2, cells := 0, slots := 0, locals := 42 }
theorem cd_C_moment : cwd y_C_moment 0 := by decide +kernel
theorem d_C_moment_0 : decode prog_1_method_40_code 0 = .ok (.aload_n 0, 1) := by decide +kernel
theorem d_C_moment_1 : decode prog_1_method_40_code 1 = .ok (.getfield 30, 3) := by decide +kernel
theorem d_C_moment_4 : decode prog_1_method_40_code 4 = .ok (.aload_n 0, 1) := by decide +kernel
theorem d_C_moment_5 : decode prog_1_method_40_code 5 = .ok (.getfield 49, 3) := by decide +kernel
theorem d_C_moment_8 : decode prog_1_method_40_code 8 = .ok (.getfield 183, 3) := by decide +kernel
theorem d_C_moment_11 : decode prog_1_method_40_code 11 = .ok (.invokevirtual 292, 3) := by decide +kernel
theorem d_C_moment_14 : decode prog_1_method_40_code 14 = .ok (.sipush 384, 3) := by decide +kernel
theorem d_C_moment_17 : decode prog_1_method_40_code 17 = .ok (.imul, 1) := by decide +kernel
theorem d_C_moment_18 : decode prog_1_method_40_code 18 = .ok (.aload_n 0, 1) := by decide +kernel
theorem d_C_moment_19 : decode prog_1_method_40_code 19 = .ok (.getfield 49, 3) := by decide +kernel
theorem d_C_moment_22 : decode prog_1_method_40_code 22 = .ok (.getfield 152, 3) := by decide +kernel
theorem d_C_moment_25 : decode prog_1_method_40_code 25 = .ok (.iadd, 1) := by decide +kernel
theorem d_C_moment_26 : decode prog_1_method_40_code 26 = .ok (.ireturn, 1) := by decide +kernel
theorem w_C_moment {p : Program} {l : Launch} {e : Env} {s : State} {m : MethodId} {args : Array Value} {below : List Frame} {meth : Method} {c : Code} {K : KT} {A : Nat → Prop} (C0 : Cx p s m args meth c prog_1_method_40_code "CanoeSides" 1 K A) (hr : meth.sig.returnType = (Option.some Jvm.ClassFile.FieldType.int)) {ad : Nat → Nat} (h : Hp) {res : Int32} (hE : K_C_moment h = some res) : G p l e rm_C_moment s m args below meth c K A WC 1 0 0 (QI s args below K A WC 0 0 ad res h) 0 [(0, .ref (ad 0))] [] ad h := by
  unfold K_C_moment at hE
  refine g_aload_n C0 0 d_C_moment_0 rfl rfl ?_
  refine g_getr C0 CK_10 4 (by decide) t_456 0 rfl rfl d_C_moment_1 ?_
  refine g_aload_n C0 0 d_C_moment_4 rfl rfl ?_
  refine g_getr C0 CK_10 7 (by decide) t_459 0 rfl rfl d_C_moment_5 ?_
  refine g_getiN C0 CK_0 1 (by decide) t_237 14 rfl rfl d_C_moment_8 ?_
  obtain ⟨v11, z11, hE⟩ := bd_some hE
  refine g_calliP C0 nd_C [15, 16, 17] rfl (sb_Waters_C) (runV C0 (m_Waters_timeBehind l K ad h (h 30 1) z11) 1 rfl ⟨t_768, t_769, t_770, t_88, t_771⟩ cd_Waters_timeBehind (by decide) 5 rfl rfl (sb_Waters_C) nd_Waters rfl rfl (Nat.le_of_ble_eq_true rfl) d_C_moment_11) ?_
  refine g_sipush C0 (v := 384) d_C_moment_14 (by decide) ?_
  refine g_imul C0 d_C_moment_17 ?_
  refine g_aload_n C0 0 d_C_moment_18 rfl rfl ?_
  refine g_getr C0 CK_10 7 (by decide) t_459 0 rfl rfl d_C_moment_19 ?_
  refine g_getiN C0 CK_0 0 (by decide) t_235 14 rfl rfl d_C_moment_22 ?_
  refine g_iadd C0 d_C_moment_25 ?_
  obtain rfl := Option.some.inj hE
  exact g_iret C0 hr d_C_moment_26
theorem m_C_moment (l : Launch) (K : KT) (ad : Nat → Nat) (h : Hp) {res : Int32} (hE : K_C_moment h = some res) : ConI l y_C_moment prog_1_method_40_code 1 (Option.some Jvm.ClassFile.FieldType.int) rm_C_moment K WC ad h [.ref (ad 0)] res h := fun sz =>
  con_start [(0, .ref (ad 0))] (by decide +kernel) rfl (Nat.le_of_ble_eq_true rfl) (fun p e s m args below meth c C0 hr hnm hsz => w_C_moment C0 hr h hE)
abbrev y_C_paddle : MethodName := ⟨"CanoeSides", "paddle", "(I)V"⟩
abbrev rm_C_paddle : Room := { frames := 3, cells := 0, slots := 0, locals := 73 }
theorem cd_C_paddle : cwd y_C_paddle 1 := by decide +kernel
theorem d_C_paddle_0 : decode prog_1_method_42_code 0 = .ok (.aload_n 0, 1) := by decide +kernel
theorem d_C_paddle_1 : decode prog_1_method_42_code 1 = .ok (.getfield 39, 3) := by decide +kernel
theorem d_C_paddle_4 : decode prog_1_method_42_code 4 = .ok (.aload_n 0, 1) := by decide +kernel
theorem d_C_paddle_5 : decode prog_1_method_42_code 5 = .ok (.invokevirtual 158, 3) := by decide +kernel
theorem d_C_paddle_8 : decode prog_1_method_42_code 8 = .ok (.iload_n 1, 1) := by decide +kernel
theorem d_C_paddle_9 : decode prog_1_method_42_code 9 = .ok (.invokevirtual 162, 3) := by decide +kernel
theorem d_C_paddle_12 : decode prog_1_method_42_code 12 = .ok (.istore_n 2, 1) := by decide +kernel
theorem d_C_paddle_13 : decode prog_1_method_42_code 13 = .ok (.aload_n 0, 1) := by decide +kernel
theorem d_C_paddle_14 : decode prog_1_method_42_code 14 = .ok (.getfield 60, 3) := by decide +kernel
theorem d_C_paddle_17 : decode prog_1_method_42_code 17 = .ok (.aload_n 0, 1) := by decide +kernel
theorem d_C_paddle_18 : decode prog_1_method_42_code 18 = .ok (.getfield 49, 3) := by decide +kernel
theorem d_C_paddle_21 : decode prog_1_method_42_code 21 = .ok (.getfield 152, 3) := by decide +kernel
theorem d_C_paddle_24 : decode prog_1_method_42_code 24 = .ok (.invokevirtual 304, 3) := by decide +kernel
theorem d_C_paddle_27 : decode prog_1_method_42_code 27 = .ok (.aload_n 0, 1) := by decide +kernel
theorem d_C_paddle_28 : decode prog_1_method_42_code 28 = .ok (.getfield 49, 3) := by decide +kernel
theorem d_C_paddle_31 : decode prog_1_method_42_code 31 = .ok (.iload_n 2, 1) := by decide +kernel
theorem d_C_paddle_32 : decode prog_1_method_42_code 32 = .ok (.sipush 384, 3) := by decide +kernel
theorem d_C_paddle_35 : decode prog_1_method_42_code 35 = .ok (.irem, 1) := by decide +kernel
theorem d_C_paddle_36 : decode prog_1_method_42_code 36 = .ok (.putfield 152, 3) := by decide +kernel
theorem d_C_paddle_39 : decode prog_1_method_42_code 39 = .ok (.aload_n 0, 1) := by decide +kernel
theorem d_C_paddle_40 : decode prog_1_method_42_code 40 = .ok (.getfield 49, 3) := by decide +kernel
theorem d_C_paddle_43 : decode prog_1_method_42_code 43 = .ok (.dup, 1) := by decide +kernel
theorem d_C_paddle_44 : decode prog_1_method_42_code 44 = .ok (.getfield 183, 3) := by decide +kernel
theorem d_C_paddle_47 : decode prog_1_method_42_code 47 = .ok (.iconst 1, 1) := by decide +kernel
theorem d_C_paddle_48 : decode prog_1_method_42_code 48 = .ok (.iadd, 1) := by decide +kernel
theorem d_C_paddle_49 : decode prog_1_method_42_code 49 = .ok (.putfield 183, 3) := by decide +kernel
theorem d_C_paddle_52 : decode prog_1_method_42_code 52 = .ok (.return_, 1) := by decide +kernel
theorem w_C_paddle {p : Program} {l : Launch} {e : Env} {s : State} {m : MethodId} {args : Array Value} {below : List Frame} {meth : Method} {c : Code} {K : KT} {A : Nat → Prop} (C0 : Cx p s m args meth c prog_1_method_42_code "CanoeSides" 3 K A) (hr : meth.sig.returnType = (Option.none : Option Jvm.ClassFile.FieldType)) {ad : Nat → Nat} (a0 : Int32) (h : Hp) {res : Hp} (hE : K_C_paddle a0 h = some res) : G p l e rm_C_paddle s m args below meth c K A WC 3 0 0 (QV s args below K A WC 0 0 ad res) 0 [(0, .ref (ad 0)), (1, .int a0)] [] ad h := by
  unfold K_C_paddle at hE
  refine g_aload_n C0 0 d_C_paddle_0 rfl rfl ?_
  refine g_getr C0 CK_10 5 (by decide) t_457 0 rfl rfl d_C_paddle_1 ?_
  refine g_aload_n C0 0 d_C_paddle_4 rfl rfl ?_
  obtain ⟨v5, z5, hE⟩ := bd_some hE
  refine g_calliP C0 nd_C [0, 2, 10, 11, 12, 15, 16, 17, 20, 21, 22, 25, 26, 27, 30, 33, 35, 36, 40, 41, 42, 43, 45, 46, 47, 48, 49, 55, 56, 60, 61, 62, 63, 64] rfl (sbW_self WC) (runV C0 (m_C_moment l K ad h z5) 0 rfl ⟨t_764, t_766, t_20, t_85, t_767⟩ cd_C_moment (by decide) 0 rfl rfl (sbW_self WC) nd_C rfl rfl (Nat.le_of_ble_eq_true rfl) d_C_paddle_5) ?_
  refine g_iload_n C0 1 d_C_paddle_8 rfl rfl ?_
  obtain ⟨v9, z9, hE⟩ := bd_some hE
  refine g_calliP C0 nd_C [20, 21, 22, 15, 16, 17] rfl (sb_Crew_C) (runV C0 (m_Crew_after l K ad h v5 a0 z9) 2 rfl ⟨t_772, t_773, t_774, t_89, t_775⟩ cd_Crew_after (by decide) 8 rfl rfl (sb_Crew_C) nd_Crew rfl rfl (Nat.le_of_ble_eq_true rfl) d_C_paddle_9) ?_
  refine g_istore_n C0 [(2, .int v9), (0, .ref (ad 0)), (1, .int a0)] d_C_paddle_12 rfl (by decide) rfl ?_
  refine g_aload_n C0 1 d_C_paddle_13 rfl rfl ?_
  refine g_getr C0 CK_10 9 (by decide) t_461 0 rfl rfl d_C_paddle_14 ?_
  refine g_aload_n C0 1 d_C_paddle_17 rfl rfl ?_
  refine g_getr C0 CK_10 7 (by decide) t_459 0 rfl rfl d_C_paddle_18 ?_
  refine g_getiN C0 CK_0 0 (by decide) t_235 14 rfl rfl d_C_paddle_21 ?_
  obtain ⟨h24, z24, hE⟩ := bd_some hE
  refine g_callv C0 nd_C [35, 36] rfl (sb_Log_C) (runV C0 (m_Log_add l K ad h (h 30 0) z24) 1 rfl ⟨t_796, t_797, t_798, t_91, t_799⟩ cd_Log_add (by decide) 16 rfl rfl (sb_Log_C) nd_Log rfl rfl (Nat.le_of_ble_eq_true rfl) d_C_paddle_24) ?_
  obtain ⟨h24m, e24, hE⟩ := nm_some hE
  refine g_heap e24 ?_
  refine g_aload_n C0 1 d_C_paddle_27 rfl rfl ?_
  refine g_getr C0 CK_10 7 (by decide) t_459 0 rfl rfl d_C_paddle_28 ?_
  refine g_iload_n C0 0 d_C_paddle_31 rfl rfl ?_
  refine g_sipush C0 (v := 384) d_C_paddle_32 (by decide) ?_
  refine g_irem C0 d_C_paddle_35 (by decide) ?_
  obtain ⟨h36, e36, hE⟩ := nm_some hE
  refine g_putiN C0 CK_0 CT_0 0 (by decide) t_235 rfl (by decide +kernel) nd_C 14 rfl rfl d_C_paddle_36 ?_
  refine g_heap e36 ?_
  refine g_aload_n C0 1 d_C_paddle_39 rfl rfl ?_
  refine g_getr C0 CK_10 7 (by decide) t_459 0 rfl rfl d_C_paddle_40 ?_
  refine g_dup C0 d_C_paddle_43 rfl ?_
  refine g_getiN C0 CK_0 1 (by decide) t_237 14 rfl rfl d_C_paddle_44 ?_
  refine g_iconst C0 (v := 1) d_C_paddle_47 (by decide) ?_
  refine g_iadd C0 d_C_paddle_48 ?_
  obtain ⟨h49, e49, hE⟩ := nm_some hE
  refine g_putiN C0 CK_0 CT_0 1 (by decide) t_237 rfl (by decide +kernel) nd_C 14 rfl rfl d_C_paddle_49 ?_
  refine g_heap e49 ?_
  obtain rfl := Option.some.inj hE
  exact g_vret C0 hr d_C_paddle_52
theorem m_C_paddle (l : Launch) (K : KT) (ad : Nat → Nat) (h : Hp) (a0 : Int32) {res : Hp} (hE : K_C_paddle a0 h = some res) : ConV l y_C_paddle prog_1_method_42_code 3 (Option.none : Option Jvm.ClassFile.FieldType) rm_C_paddle K WC ad h [.ref (ad 0), .int a0] res := fun sz =>
  con_start [(0, .ref (ad 0)), (1, .int a0)] (by decide +kernel) rfl (Nat.le_of_ble_eq_true rfl) (fun p e s m args below meth c C0 hr hnm hsz => w_C_paddle C0 hr a0 h hE)
abbrev y_C_stroke : MethodName := ⟨"CanoeSides", "stroke", "(II)I"⟩
abbrev rm_C_stroke : Room := { frames := 4, cells := 0, slots := 0, locals := 95 }
theorem cd_C_stroke : cwd y_C_stroke 2 := by decide +kernel
theorem d_C_stroke_0 : decode prog_1_method_8_code 0 = .ok (.iload_n 1, 1) := by decide +kernel
theorem d_C_stroke_1 : decode prog_1_method_8_code 1 = .ok (.iconst 0, 1) := by decide +kernel
theorem d_C_stroke_2 : decode prog_1_method_8_code 2 = .ok (.iconst 3, 1) := by decide +kernel
theorem d_C_stroke_3 : decode prog_1_method_8_code 3 = .ok (.invokestatic 96, 3) := by decide +kernel
theorem d_C_stroke_6 : decode prog_1_method_8_code 6 = .ok (.ifCond .ne 12, 3) := by decide +kernel
theorem d_C_stroke_9 : decode prog_1_method_8_code 9 = .ok (.iload_n 2, 1) := by decide +kernel
theorem d_C_stroke_10 : decode prog_1_method_8_code 10 = .ok (.iconst 0, 1) := by decide +kernel
theorem d_C_stroke_11 : decode prog_1_method_8_code 11 = .ok (.iconst 3, 1) := by decide +kernel
theorem d_C_stroke_12 : decode prog_1_method_8_code 12 = .ok (.invokestatic 96, 3) := by decide +kernel
theorem d_C_stroke_15 : decode prog_1_method_8_code 15 = .ok (.ifCond .eq 6, 3) := by decide +kernel
theorem d_C_stroke_18 : decode prog_1_method_8_code 18 = .ok (.ldc 100, 2) := by decide +kernel
theorem d_C_stroke_20 : decode prog_1_method_8_code 20 = .ok (.ireturn, 1) := by decide +kernel
theorem d_C_stroke_21 : decode prog_1_method_8_code 21 = .ok (.aload_n 0, 1) := by decide +kernel
theorem d_C_stroke_22 : decode prog_1_method_8_code 22 = .ok (.invokevirtual 143, 3) := by decide +kernel
theorem d_C_stroke_25 : decode prog_1_method_8_code 25 = .ok (.ifCond .eq 6, 3) := by decide +kernel
theorem d_C_stroke_28 : decode prog_1_method_8_code 28 = .ok (.ldc 147, 2) := by decide +kernel
theorem d_C_stroke_30 : decode prog_1_method_8_code 30 = .ok (.ireturn, 1) := by decide +kernel
theorem d_C_stroke_31 : decode prog_1_method_8_code 31 = .ok (.aload_n 0, 1) := by decide +kernel
theorem d_C_stroke_32 : decode prog_1_method_8_code 32 = .ok (.iconst 4, 1) := by decide +kernel
theorem d_C_stroke_33 : decode prog_1_method_8_code 33 = .ok (.iload_n 1, 1) := by decide +kernel
theorem d_C_stroke_34 : decode prog_1_method_8_code 34 = .ok (.imul, 1) := by decide +kernel
theorem d_C_stroke_35 : decode prog_1_method_8_code 35 = .ok (.iload_n 2, 1) := by decide +kernel
theorem d_C_stroke_36 : decode prog_1_method_8_code 36 = .ok (.iadd, 1) := by decide +kernel
theorem d_C_stroke_37 : decode prog_1_method_8_code 37 = .ok (.invokevirtual 148, 3) := by decide +kernel
theorem d_C_stroke_40 : decode prog_1_method_8_code 40 = .ok (.aload_n 0, 1) := by decide +kernel
theorem d_C_stroke_41 : decode prog_1_method_8_code 41 = .ok (.getfield 49, 3) := by decide +kernel
theorem d_C_stroke_44 : decode prog_1_method_8_code 44 = .ok (.getfield 152, 3) := by decide +kernel
theorem d_C_stroke_47 : decode prog_1_method_8_code 47 = .ok (.bipush 8, 2) := by decide +kernel
theorem d_C_stroke_49 : decode prog_1_method_8_code 49 = .ok (.idiv, 1) := by decide +kernel
theorem d_C_stroke_50 : decode prog_1_method_8_code 50 = .ok (.invokestatic 155, 3) := by decide +kernel
theorem d_C_stroke_53 : decode prog_1_method_8_code 53 = .ok (.ireturn, 1) := by decide +kernel
theorem w_C_stroke {p : Program} {l : Launch} {e : Env} {s : State} {m : MethodId} {args : Array Value} {below : List Frame} {meth : Method} {c : Code} {K : KT} {A : Nat → Prop} (C0 : Cx p s m args meth c prog_1_method_8_code "CanoeSides" 3 K A) (hr : meth.sig.returnType = (Option.some Jvm.ClassFile.FieldType.int)) {ad : Nat → Nat} (a0 : Int32) (b0 : Int32) (h : Hp) {res : Int32 × Hp} (hE : K_C_stroke a0 b0 h = some res) : G p l e rm_C_stroke s m args below meth c K A WC 3 0 0 (QI s args below K A WC 0 0 ad res.1 res.2) 0 [(0, .ref (ad 0)), (1, .int a0), (2, .int b0)] [] ad h := by
  unfold K_C_stroke at hE
  refine g_iload_n C0 1 d_C_stroke_0 rfl rfl ?_
  refine g_iconst C0 (v := 0) d_C_stroke_1 (by decide) ?_
  refine g_iconst C0 (v := 3) d_C_stroke_2 (by decide) ?_
  obtain ⟨v3, z3, hE⟩ := bd_some hE
  refine g_calliP C0 nd_C [] rfl (sb_E_C) (runS C0 (m_C_isOutside l K ad h a0 0 3 z3) 3 ⟨t_499, t_500, t_85, t_501⟩ cd_C_isOutside (by decide) (sb_E_C) nd_E rfl rfl (Nat.le_of_ble_eq_true rfl) d_C_stroke_3) ?_
  have hB := ite_some hE
  refine g_if_ne C0 (tgt := 18) d_C_stroke_6 (by decide) (fun c_ => ?_) (fun c_ => ?_)
  · replace hE := hB.2 c_
    refine g_ldc C0 (v := (-1000000002)) t_502 d_C_stroke_18 ?_
    obtain rfl := Option.some.inj hE
    exact g_iret C0 hr d_C_stroke_20
  · replace hE := hB.1 c_
    refine g_iload_n C0 2 d_C_stroke_9 rfl rfl ?_
    refine g_iconst C0 (v := 0) d_C_stroke_10 (by decide) ?_
    refine g_iconst C0 (v := 3) d_C_stroke_11 (by decide) ?_
    obtain ⟨v12, z12, hE⟩ := bd_some hE
    refine g_calliP C0 nd_C [] rfl (sb_E_C) (runS C0 (m_C_isOutside l K ad h b0 0 3 z12) 3 ⟨t_499, t_500, t_85, t_501⟩ cd_C_isOutside (by decide) (sb_E_C) nd_E rfl rfl (Nat.le_of_ble_eq_true rfl) d_C_stroke_12) ?_
    have hB := ite_some hE
    refine g_if_eq C0 (tgt := 21) d_C_stroke_15 (by decide) (fun c_ => ?_) (fun c_ => ?_)
    · replace hE := hB.1 c_
      refine g_aload_n C0 0 d_C_stroke_21 rfl rfl ?_
      obtain ⟨v22, z22, hE⟩ := bd_some hE
      refine g_calliP C0 nd_C [0, 2, 10, 11, 12, 15, 16, 17, 20, 21, 22, 25, 26, 27, 30, 33, 35, 36, 40, 41, 42, 43, 45, 46, 47, 48, 49, 55, 56, 60, 61, 62, 63, 64] rfl (sbW_self WC) (runV C0 (m_C_noSquares l K ad h z22) 0 rfl ⟨t_755, t_757, t_18, t_85, t_758⟩ cd_C_noSquares (by decide) 0 rfl rfl (sbW_self WC) nd_C rfl rfl (Nat.le_of_ble_eq_true rfl) d_C_stroke_22) ?_
      have hB := ite_some hE
      refine g_if_eq C0 (tgt := 31) d_C_stroke_25 (by decide) (fun c_ => ?_) (fun c_ => ?_)
      · replace hE := hB.1 c_
        refine g_aload_n C0 0 d_C_stroke_31 rfl rfl ?_
        refine g_iconst C0 (v := 4) d_C_stroke_32 (by decide) ?_
        refine g_iload_n C0 1 d_C_stroke_33 rfl rfl ?_
        refine g_imul C0 d_C_stroke_34 ?_
        refine g_iload_n C0 2 d_C_stroke_35 rfl rfl ?_
        refine g_iadd C0 d_C_stroke_36 ?_
        obtain ⟨h37, z37, hE⟩ := bd_some hE
        refine g_callv C0 nd_C [0, 2, 10, 11, 12, 15, 16, 17, 20, 21, 22, 25, 26, 27, 30, 33, 35, 36, 40, 41, 42, 43, 45, 46, 47, 48, 49, 55, 56, 60, 61, 62, 63, 64] rfl (sbW_self WC) (runV C0 (m_C_paddle l K ad h ((4 * a0) + b0) z37) 1 rfl ⟨t_760, t_762, t_19, t_85, t_763⟩ cd_C_paddle (by decide) 0 rfl rfl (sbW_self WC) nd_C rfl rfl (Nat.le_of_ble_eq_true rfl) d_C_stroke_37) ?_
        refine g_mx [0, 2, 10, 11, 12, 15, 16, 17, 20, 21, 22, 25, 26, 27, 30, 33, 35, 36, 40, 41, 42, 43, 45, 46, 47, 48, 49, 55, 56, 60, 61, 62, 63, 64] rfl ?_
        refine g_aload_n C0 0 d_C_stroke_40 rfl rfl ?_
        refine g_getr C0 CK_10 7 (by decide) t_459 0 rfl rfl d_C_stroke_41 ?_
        refine g_getiN C0 CK_0 0 (by decide) t_235 14 rfl rfl d_C_stroke_44 ?_
        refine g_bipush C0 (v := 8) d_C_stroke_47 (by decide) ?_
        refine g_idiv C0 d_C_stroke_49 (by decide) ?_
        obtain ⟨v50, z50, hE⟩ := bd_some hE
        refine g_calliP C0 nd_C [] rfl (sb_E_C) (runS C0 (m_C_placeOf l K ad h37 ((h37 30 0) / 8) z50) 1 ⟨t_719, t_720, t_85, t_721⟩ cd_C_placeOf (by decide) (sb_E_C) nd_E rfl rfl (Nat.le_of_ble_eq_true rfl) d_C_stroke_50) ?_
        obtain rfl := Option.some.inj hE
        exact g_iret C0 hr d_C_stroke_53
      · replace hE := hB.2 c_
        refine g_ldc C0 (v := (-1000000003)) t_759 d_C_stroke_28 ?_
        obtain rfl := Option.some.inj hE
        exact g_iret C0 hr d_C_stroke_30
    · replace hE := hB.2 c_
      refine g_ldc C0 (v := (-1000000002)) t_502 d_C_stroke_18 ?_
      obtain rfl := Option.some.inj hE
      exact g_iret C0 hr d_C_stroke_20
theorem m_C_stroke (l : Launch) (K : KT) (ad : Nat → Nat) (h : Hp) (a0 : Int32) (b0 : Int32) {res : Int32 × Hp} (hE : K_C_stroke a0 b0 h = some res) : ConI l y_C_stroke prog_1_method_8_code 3 (Option.some Jvm.ClassFile.FieldType.int) rm_C_stroke K WC ad h [.ref (ad 0), .int a0, .int b0] res.1 res.2 := fun sz =>
  con_start [(0, .ref (ad 0)), (1, .int a0), (2, .int b0)] (by decide +kernel) rfl (Nat.le_of_ble_eq_true rfl) (fun p e s m args below meth c C0 hr hnm hsz => w_C_stroke C0 hr a0 b0 h hE)
abbrev y_C_would : MethodName := ⟨"CanoeSides", "would", "(III)I"⟩
abbrev rm_C_would : Room := { frames := 3, cells := 0, slots := 0, locals := 73 }
theorem cd_C_would : cwd y_C_would 3 := by decide +kernel
theorem d_C_would_0 : decode prog_1_method_9_code 0 = .ok (.iload_n 1, 1) := by decide +kernel
theorem d_C_would_1 : decode prog_1_method_9_code 1 = .ok (.iconst 0, 1) := by decide +kernel
theorem d_C_would_2 : decode prog_1_method_9_code 2 = .ok (.iconst 3, 1) := by decide +kernel
theorem d_C_would_3 : decode prog_1_method_9_code 3 = .ok (.invokestatic 96, 3) := by decide +kernel
theorem d_C_would_6 : decode prog_1_method_9_code 6 = .ok (.ifCond .ne 21, 3) := by decide +kernel
theorem d_C_would_9 : decode prog_1_method_9_code 9 = .ok (.iload_n 2, 1) := by decide +kernel
theorem d_C_would_10 : decode prog_1_method_9_code 10 = .ok (.iconst 0, 1) := by decide +kernel
theorem d_C_would_11 : decode prog_1_method_9_code 11 = .ok (.iconst 3, 1) := by decide +kernel
theorem d_C_would_12 : decode prog_1_method_9_code 12 = .ok (.invokestatic 96, 3) := by decide +kernel
theorem d_C_would_15 : decode prog_1_method_9_code 15 = .ok (.ifCond .ne 12, 3) := by decide +kernel
theorem d_C_would_18 : decode prog_1_method_9_code 18 = .ok (.iload_n 3, 1) := by decide +kernel
theorem d_C_would_19 : decode prog_1_method_9_code 19 = .ok (.iconst 0, 1) := by decide +kernel
theorem d_C_would_20 : decode prog_1_method_9_code 20 = .ok (.iconst 3, 1) := by decide +kernel
theorem d_C_would_21 : decode prog_1_method_9_code 21 = .ok (.invokestatic 96, 3) := by decide +kernel
theorem d_C_would_24 : decode prog_1_method_9_code 24 = .ok (.ifCond .eq 6, 3) := by decide +kernel
theorem d_C_would_27 : decode prog_1_method_9_code 27 = .ok (.ldc 100, 2) := by decide +kernel
theorem d_C_would_29 : decode prog_1_method_9_code 29 = .ok (.ireturn, 1) := by decide +kernel
theorem d_C_would_30 : decode prog_1_method_9_code 30 = .ok (.aload_n 0, 1) := by decide +kernel
theorem d_C_would_31 : decode prog_1_method_9_code 31 = .ok (.invokevirtual 143, 3) := by decide +kernel
theorem d_C_would_34 : decode prog_1_method_9_code 34 = .ok (.ifCond .eq 6, 3) := by decide +kernel
theorem d_C_would_37 : decode prog_1_method_9_code 37 = .ok (.ldc 147, 2) := by decide +kernel
theorem d_C_would_39 : decode prog_1_method_9_code 39 = .ok (.ireturn, 1) := by decide +kernel
theorem d_C_would_40 : decode prog_1_method_9_code 40 = .ok (.iconst 4, 1) := by decide +kernel
theorem d_C_would_41 : decode prog_1_method_9_code 41 = .ok (.iload_n 1, 1) := by decide +kernel
theorem d_C_would_42 : decode prog_1_method_9_code 42 = .ok (.imul, 1) := by decide +kernel
theorem d_C_would_43 : decode prog_1_method_9_code 43 = .ok (.iload_n 2, 1) := by decide +kernel
theorem d_C_would_44 : decode prog_1_method_9_code 44 = .ok (.iadd, 1) := by decide +kernel
theorem d_C_would_45 : decode prog_1_method_9_code 45 = .ok (.istore 4, 2) := by decide +kernel
theorem d_C_would_47 : decode prog_1_method_9_code 47 = .ok (.iload_n 3, 1) := by decide +kernel
theorem d_C_would_48 : decode prog_1_method_9_code 48 = .ok (.tableswitch 75 0 2 #[28, 48, 65], 28) := by decide +kernel
theorem d_C_would_76 : decode prog_1_method_9_code 76 = .ok (.aload_n 0, 1) := by decide +kernel
theorem d_C_would_77 : decode prog_1_method_9_code 77 = .ok (.getfield 39, 3) := by decide +kernel
theorem d_C_would_80 : decode prog_1_method_9_code 80 = .ok (.aload_n 0, 1) := by decide +kernel
theorem d_C_would_81 : decode prog_1_method_9_code 81 = .ok (.invokevirtual 158, 3) := by decide +kernel
theorem d_C_would_84 : decode prog_1_method_9_code 84 = .ok (.iload 4, 2) := by decide +kernel
theorem d_C_would_86 : decode prog_1_method_9_code 86 = .ok (.invokevirtual 162, 3) := by decide +kernel
theorem d_C_would_89 : decode prog_1_method_9_code 89 = .ok (.invokestatic 165, 3) := by decide +kernel
theorem d_C_would_92 : decode prog_1_method_9_code 92 = .ok (.invokestatic 155, 3) := by decide +kernel
theorem d_C_would_95 : decode prog_1_method_9_code 95 = .ok (.ireturn, 1) := by decide +kernel
theorem d_C_would_96 : decode prog_1_method_9_code 96 = .ok (.aload_n 0, 1) := by decide +kernel
theorem d_C_would_97 : decode prog_1_method_9_code 97 = .ok (.getfield 39, 3) := by decide +kernel
theorem d_C_would_100 : decode prog_1_method_9_code 100 = .ok (.aload_n 0, 1) := by decide +kernel
theorem d_C_would_101 : decode prog_1_method_9_code 101 = .ok (.invokevirtual 158, 3) := by decide +kernel
theorem d_C_would_104 : decode prog_1_method_9_code 104 = .ok (.iload 4, 2) := by decide +kernel
theorem d_C_would_106 : decode prog_1_method_9_code 106 = .ok (.invokevirtual 162, 3) := by decide +kernel
theorem d_C_would_109 : decode prog_1_method_9_code 109 = .ok (.invokestatic 168, 3) := by decide +kernel
theorem d_C_would_112 : decode prog_1_method_9_code 112 = .ok (.ireturn, 1) := by decide +kernel
theorem d_C_would_113 : decode prog_1_method_9_code 113 = .ok (.aload_n 0, 1) := by decide +kernel
theorem d_C_would_114 : decode prog_1_method_9_code 114 = .ok (.getfield 39, 3) := by decide +kernel
theorem d_C_would_117 : decode prog_1_method_9_code 117 = .ok (.iload 4, 2) := by decide +kernel
theorem d_C_would_119 : decode prog_1_method_9_code 119 = .ok (.invokevirtual 171, 3) := by decide +kernel
theorem d_C_would_122 : decode prog_1_method_9_code 122 = .ok (.ireturn, 1) := by decide +kernel
theorem d_C_would_123 : decode prog_1_method_9_code 123 = .ok (.aload_n 0, 1) := by decide +kernel
theorem d_C_would_124 : decode prog_1_method_9_code 124 = .ok (.getfield 39, 3) := by decide +kernel
theorem d_C_would_127 : decode prog_1_method_9_code 127 = .ok (.iload 4, 2) := by decide +kernel
theorem d_C_would_129 : decode prog_1_method_9_code 129 = .ok (.invokevirtual 174, 3) := by decide +kernel
theorem d_C_would_132 : decode prog_1_method_9_code 132 = .ok (.ireturn, 1) := by decide +kernel
theorem w_C_would {p : Program} {l : Launch} {e : Env} {s : State} {m : MethodId} {args : Array Value} {below : List Frame} {meth : Method} {c : Code} {K : KT} {A : Nat → Prop} (C0 : Cx p s m args meth c prog_1_method_9_code "CanoeSides" 5 K A) (hr : meth.sig.returnType = (Option.some Jvm.ClassFile.FieldType.int)) {ad : Nat → Nat} (a0 : Int32) (b0 : Int32) (c0 : Int32) (h : Hp) {res : Int32} (hE : K_C_would a0 b0 c0 h = some res) : G p l e rm_C_would s m args below meth c K A WC 5 0 0 (QI s args below K A WC 0 0 ad res h) 0 [(0, .ref (ad 0)), (1, .int a0), (2, .int b0), (3, .int c0)] [] ad h := by
  unfold K_C_would at hE
  refine g_iload_n C0 1 d_C_would_0 rfl rfl ?_
  refine g_iconst C0 (v := 0) d_C_would_1 (by decide) ?_
  refine g_iconst C0 (v := 3) d_C_would_2 (by decide) ?_
  obtain ⟨v3, z3, hE⟩ := bd_some hE
  refine g_calliP C0 nd_C [] rfl (sb_E_C) (runS C0 (m_C_isOutside l K ad h a0 0 3 z3) 3 ⟨t_499, t_500, t_85, t_501⟩ cd_C_isOutside (by decide) (sb_E_C) nd_E rfl rfl (Nat.le_of_ble_eq_true rfl) d_C_would_3) ?_
  have hB := ite_some hE
  refine g_if_ne C0 (tgt := 27) d_C_would_6 (by decide) (fun c_ => ?_) (fun c_ => ?_)
  · replace hE := hB.2 c_
    refine g_ldc C0 (v := (-1000000002)) t_502 d_C_would_27 ?_
    obtain rfl := Option.some.inj hE
    exact g_iret C0 hr d_C_would_29
  · replace hE := hB.1 c_
    refine g_iload_n C0 2 d_C_would_9 rfl rfl ?_
    refine g_iconst C0 (v := 0) d_C_would_10 (by decide) ?_
    refine g_iconst C0 (v := 3) d_C_would_11 (by decide) ?_
    obtain ⟨v12, z12, hE⟩ := bd_some hE
    refine g_calliP C0 nd_C [] rfl (sb_E_C) (runS C0 (m_C_isOutside l K ad h b0 0 3 z12) 3 ⟨t_499, t_500, t_85, t_501⟩ cd_C_isOutside (by decide) (sb_E_C) nd_E rfl rfl (Nat.le_of_ble_eq_true rfl) d_C_would_12) ?_
    have hB := ite_some hE
    refine g_if_ne C0 (tgt := 27) d_C_would_15 (by decide) (fun c_ => ?_) (fun c_ => ?_)
    · replace hE := hB.2 c_
      refine g_ldc C0 (v := (-1000000002)) t_502 d_C_would_27 ?_
      obtain rfl := Option.some.inj hE
      exact g_iret C0 hr d_C_would_29
    · replace hE := hB.1 c_
      refine g_iload_n C0 3 d_C_would_18 rfl rfl ?_
      refine g_iconst C0 (v := 0) d_C_would_19 (by decide) ?_
      refine g_iconst C0 (v := 3) d_C_would_20 (by decide) ?_
      obtain ⟨v21, z21, hE⟩ := bd_some hE
      refine g_calliP C0 nd_C [] rfl (sb_E_C) (runS C0 (m_C_isOutside l K ad h c0 0 3 z21) 3 ⟨t_499, t_500, t_85, t_501⟩ cd_C_isOutside (by decide) (sb_E_C) nd_E rfl rfl (Nat.le_of_ble_eq_true rfl) d_C_would_21) ?_
      have hB := ite_some hE
      refine g_if_eq C0 (tgt := 30) d_C_would_24 (by decide) (fun c_ => ?_) (fun c_ => ?_)
      · replace hE := hB.1 c_
        refine g_aload_n C0 0 d_C_would_30 rfl rfl ?_
        obtain ⟨v31, z31, hE⟩ := bd_some hE
        refine g_calliP C0 nd_C [0, 2, 10, 11, 12, 15, 16, 17, 20, 21, 22, 25, 26, 27, 30, 33, 35, 36, 40, 41, 42, 43, 45, 46, 47, 48, 49, 55, 56, 60, 61, 62, 63, 64] rfl (sbW_self WC) (runV C0 (m_C_noSquares l K ad h z31) 0 rfl ⟨t_755, t_757, t_18, t_85, t_758⟩ cd_C_noSquares (by decide) 0 rfl rfl (sbW_self WC) nd_C rfl rfl (Nat.le_of_ble_eq_true rfl) d_C_would_31) ?_
        have hB := ite_some hE
        refine g_if_eq C0 (tgt := 40) d_C_would_34 (by decide) (fun c_ => ?_) (fun c_ => ?_)
        · replace hE := hB.1 c_
          refine g_iconst C0 (v := 4) d_C_would_40 (by decide) ?_
          refine g_iload_n C0 1 d_C_would_41 rfl rfl ?_
          refine g_imul C0 d_C_would_42 ?_
          refine g_iload_n C0 2 d_C_would_43 rfl rfl ?_
          refine g_iadd C0 d_C_would_44 ?_
          obtain ⟨v45, e45, hE⟩ := nm_some hE
          refine g_top e45 ?_
          refine g_istore C0 [(4, .int v45), (0, .ref (ad 0)), (1, .int a0), (2, .int b0), (3, .int c0)] d_C_would_45 (by decide) rfl ?_
          refine g_iload_n C0 4 d_C_would_47 rfl rfl ?_
          have hB := ite_some hE
          by_cases c_0 : c0 = 0
          · replace hE := hB.1 c_0
            refine g_tableIn C0 (tgt := 76) (off := 28) d_C_would_48 (by rw [c_0]; decide) (by rw [c_0]; decide) (by rw [c_0]; rfl) (by decide) ?_
            refine g_aload_n C0 1 d_C_would_76 rfl rfl ?_
            refine g_getr C0 CK_10 5 (by decide) t_457 0 rfl rfl d_C_would_77 ?_
            refine g_aload_n C0 1 d_C_would_80 rfl rfl ?_
            obtain ⟨v81, z81, hE⟩ := bd_some hE
            refine g_calliP C0 nd_C [0, 2, 10, 11, 12, 15, 16, 17, 20, 21, 22, 25, 26, 27, 30, 33, 35, 36, 40, 41, 42, 43, 45, 46, 47, 48, 49, 55, 56, 60, 61, 62, 63, 64] rfl (sbW_self WC) (runV C0 (m_C_moment l K ad h z81) 0 rfl ⟨t_764, t_766, t_20, t_85, t_767⟩ cd_C_moment (by decide) 0 rfl rfl (sbW_self WC) nd_C rfl rfl (Nat.le_of_ble_eq_true rfl) d_C_would_81) ?_
            refine g_iload C0 0 d_C_would_84 rfl ?_
            obtain ⟨v86, z86, hE⟩ := bd_some hE
            refine g_calliP C0 nd_C [20, 21, 22, 15, 16, 17] rfl (sb_Crew_C) (runV C0 (m_Crew_after l K ad h v81 v45 z86) 2 rfl ⟨t_772, t_773, t_774, t_89, t_775⟩ cd_Crew_after (by decide) 8 rfl rfl (sb_Crew_C) nd_Crew rfl rfl (Nat.le_of_ble_eq_true rfl) d_C_would_86) ?_
            obtain ⟨v89, z89, hE⟩ := bd_some hE
            refine g_calliP C0 nd_C [] rfl (sb_E_C) (runS C0 (m_C_squareOf l K ad h v86 z89) 1 ⟨t_805, t_806, t_85, t_807⟩ cd_C_squareOf (by decide) (sb_E_C) nd_E rfl rfl (Nat.le_of_ble_eq_true rfl) d_C_would_89) ?_
            obtain ⟨v92, z92, hE⟩ := bd_some hE
            refine g_calliP C0 nd_C [] rfl (sb_E_C) (runS C0 (m_C_placeOf l K ad h v89 z92) 1 ⟨t_719, t_720, t_85, t_721⟩ cd_C_placeOf (by decide) (sb_E_C) nd_E rfl rfl (Nat.le_of_ble_eq_true rfl) d_C_would_92) ?_
            obtain rfl := Option.some.inj hE
            exact g_iret C0 hr d_C_would_95
          · replace hE := hB.2 c_0
            have hB := ite_some hE
            by_cases c_1 : c0 = 1
            · replace hE := hB.1 c_1
              refine g_tableIn C0 (tgt := 96) (off := 48) d_C_would_48 (by rw [c_1]; decide) (by rw [c_1]; decide) (by rw [c_1]; rfl) (by decide) ?_
              refine g_aload_n C0 1 d_C_would_96 rfl rfl ?_
              refine g_getr C0 CK_10 5 (by decide) t_457 0 rfl rfl d_C_would_97 ?_
              refine g_aload_n C0 1 d_C_would_100 rfl rfl ?_
              obtain ⟨v101, z101, hE⟩ := bd_some hE
              refine g_calliP C0 nd_C [0, 2, 10, 11, 12, 15, 16, 17, 20, 21, 22, 25, 26, 27, 30, 33, 35, 36, 40, 41, 42, 43, 45, 46, 47, 48, 49, 55, 56, 60, 61, 62, 63, 64] rfl (sbW_self WC) (runV C0 (m_C_moment l K ad h z101) 0 rfl ⟨t_764, t_766, t_20, t_85, t_767⟩ cd_C_moment (by decide) 0 rfl rfl (sbW_self WC) nd_C rfl rfl (Nat.le_of_ble_eq_true rfl) d_C_would_101) ?_
              refine g_iload C0 0 d_C_would_104 rfl ?_
              obtain ⟨v106, z106, hE⟩ := bd_some hE
              refine g_calliP C0 nd_C [20, 21, 22, 15, 16, 17] rfl (sb_Crew_C) (runV C0 (m_Crew_after l K ad h v101 v45 z106) 2 rfl ⟨t_772, t_773, t_774, t_89, t_775⟩ cd_Crew_after (by decide) 8 rfl rfl (sb_Crew_C) nd_Crew rfl rfl (Nat.le_of_ble_eq_true rfl) d_C_would_106) ?_
              obtain ⟨v109, z109, hE⟩ := bd_some hE
              refine g_calliP C0 nd_C [] rfl (sb_E_C) (runS C0 (m_C_headingOf l K ad h v106 z109) 1 ⟨t_722, t_723, t_85, t_724⟩ cd_C_headingOf (by decide) (sb_E_C) nd_E rfl rfl (Nat.le_of_ble_eq_true rfl) d_C_would_109) ?_
              obtain rfl := Option.some.inj hE
              exact g_iret C0 hr d_C_would_112
            · replace hE := hB.2 c_1
              have hB := ite_some hE
              by_cases c_2 : c0 = 2
              · replace hE := hB.1 c_2
                refine g_tableIn C0 (tgt := 113) (off := 65) d_C_would_48 (by rw [c_2]; decide) (by rw [c_2]; decide) (by rw [c_2]; rfl) (by decide) ?_
                refine g_aload_n C0 1 d_C_would_113 rfl rfl ?_
                refine g_getr C0 CK_10 5 (by decide) t_457 0 rfl rfl d_C_would_114 ?_
                refine g_iload C0 0 d_C_would_117 rfl ?_
                obtain ⟨v119, z119, hE⟩ := bd_some hE
                refine g_calliP C0 nd_C [20, 21, 22, 15, 16, 17] rfl (sb_Crew_C) (runV C0 (m_Crew_turnOf l K ad h v45 z119) 1 rfl ⟨t_808, t_777, t_778, t_89, t_779⟩ cd_Crew_turnOf (by decide) 8 rfl rfl (sb_Crew_C) nd_Crew rfl rfl (Nat.le_of_ble_eq_true rfl) d_C_would_119) ?_
                obtain rfl := Option.some.inj hE
                exact g_iret C0 hr d_C_would_122
              · replace hE := hB.2 c_2
                refine g_tableOut C0 (tgt := 123) d_C_would_48 (by have n_0 := i32_ne (j := 0) c_0 (by decide) (by decide); have n_1 := i32_ne (j := 1) c_1 (by decide) (by decide); have n_2 := i32_ne (j := 2) c_2 (by decide) (by decide); omega) (by decide) ?_
                refine g_aload_n C0 1 d_C_would_123 rfl rfl ?_
                refine g_getr C0 CK_10 5 (by decide) t_457 0 rfl rfl d_C_would_124 ?_
                refine g_iload C0 0 d_C_would_127 rfl ?_
                obtain ⟨v129, z129, hE⟩ := bd_some hE
                refine g_calliP C0 nd_C [20, 21, 22, 15, 16, 17] rfl (sb_Crew_C) (runV C0 (m_Crew_pushOf l K ad h v45 z129) 1 rfl ⟨t_809, t_781, t_782, t_89, t_783⟩ cd_Crew_pushOf (by decide) 8 rfl rfl (sb_Crew_C) nd_Crew rfl rfl (Nat.le_of_ble_eq_true rfl) d_C_would_129) ?_
                obtain rfl := Option.some.inj hE
                exact g_iret C0 hr d_C_would_132
        · replace hE := hB.2 c_
          refine g_ldc C0 (v := (-1000000003)) t_759 d_C_would_37 ?_
          obtain rfl := Option.some.inj hE
          exact g_iret C0 hr d_C_would_39
      · replace hE := hB.2 c_
        refine g_ldc C0 (v := (-1000000002)) t_502 d_C_would_27 ?_
        obtain rfl := Option.some.inj hE
        exact g_iret C0 hr d_C_would_29
theorem m_C_would (l : Launch) (K : KT) (ad : Nat → Nat) (h : Hp) (a0 : Int32) (b0 : Int32) (c0 : Int32) {res : Int32} (hE : K_C_would a0 b0 c0 h = some res) : ConI l y_C_would prog_1_method_9_code 5 (Option.some Jvm.ClassFile.FieldType.int) rm_C_would K WC ad h [.ref (ad 0), .int a0, .int b0, .int c0] res h := fun sz =>
  con_start [(0, .ref (ad 0)), (1, .int a0), (2, .int b0), (3, .int c0)] (by decide +kernel) rfl (Nat.le_of_ble_eq_true rfl) (fun p e s m args below meth c C0 hr hnm hsz => w_C_would C0 hr a0 b0 c0 h hE)
