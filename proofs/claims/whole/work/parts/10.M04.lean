/-! walks, by program -/
abbrev y_M_tear : MethodName := ⟨"CanoeSidesModel", "tear", "()I"⟩
abbrev rm_M_tear : Room := { frames := 0, cells := 0, slots := 0, locals := 0 }
theorem cd_M_tear : cwd y_M_tear 0 := by decide +kernel
theorem d_M_tear_0 : decode prog_13_method_84_code 0 = .ok (.aload_n 0, 1) := by decide +kernel
theorem d_M_tear_1 : decode prog_13_method_84_code 1 = .ok (.getfield 134, 3) := by decide +kernel
theorem d_M_tear_4 : decode prog_13_method_84_code 4 = .ok (.aload_n 0, 1) := by decide +kernel
theorem d_M_tear_5 : decode prog_13_method_84_code 5 = .ok (.getfield 137, 3) := by decide +kernel
theorem d_M_tear_8 : decode prog_13_method_84_code 8 = .ok (.iadd, 1) := by decide +kernel
theorem d_M_tear_9 : decode prog_13_method_84_code 9 = .ok (.istore_n 1, 1) := by decide +kernel
theorem d_M_tear_10 : decode prog_13_method_84_code 10 = .ok (.aload_n 0, 1) := by decide +kernel
theorem d_M_tear_11 : decode prog_13_method_84_code 11 = .ok (.iconst 0, 1) := by decide +kernel
theorem d_M_tear_12 : decode prog_13_method_84_code 12 = .ok (.putfield 134, 3) := by decide +kernel
theorem d_M_tear_15 : decode prog_13_method_84_code 15 = .ok (.aload_n 0, 1) := by decide +kernel
theorem d_M_tear_16 : decode prog_13_method_84_code 16 = .ok (.iconst 0, 1) := by decide +kernel
theorem d_M_tear_17 : decode prog_13_method_84_code 17 = .ok (.putfield 137, 3) := by decide +kernel
theorem d_M_tear_20 : decode prog_13_method_84_code 20 = .ok (.iload_n 1, 1) := by decide +kernel
theorem d_M_tear_21 : decode prog_13_method_84_code 21 = .ok (.ireturn, 1) := by decide +kernel
theorem w_M_tear {p : Program} {l : Launch} {e : Env} {s : State} {m : MethodId} {args : Array Value} {below : List Frame} {meth : Method} {c : Code} {K : KT} {A : Nat → Prop} (C0 : Cx p s m args meth c prog_13_method_84_code "CanoeSidesModel" 2 K A) (hr : meth.sig.returnType = (Option.some Jvm.ClassFile.FieldType.int)) {ad : Nat → Nat} (h : Hp) {res : Int32 × Hp} (hE : K_M_tear h = some res) : G p l e rm_M_tear s m args below meth c K A WM 2 0 0 (QI s args below K A WM 0 0 ad res.1 res.2) 0 [(0, .ref (ad 100))] [] ad h := by
  unfold K_M_tear at hE
  refine g_aload_n C0 0 d_M_tear_0 rfl rfl ?_
  refine g_geti C0 CK_11 26 (by decide) t_1116 0 rfl rfl d_M_tear_1 ?_
  refine g_aload_n C0 0 d_M_tear_4 rfl rfl ?_
  refine g_geti C0 CK_11 32 (by decide) t_1122 0 rfl rfl d_M_tear_5 ?_
  refine g_iadd C0 d_M_tear_8 ?_
  obtain ⟨v9, e9, hE⟩ := nm_some hE
  refine g_top e9 ?_
  refine g_istore_n C0 [(1, .int v9), (0, .ref (ad 100))] d_M_tear_9 rfl (by decide) rfl ?_
  refine g_aload_n C0 1 d_M_tear_10 rfl rfl ?_
  refine g_iconst C0 (v := 0) d_M_tear_11 (by decide) ?_
  obtain ⟨h12, e12, hE⟩ := nm_some hE
  refine g_puti C0 CK_11 CT_11 26 (by decide) t_1116 rfl (by decide +kernel) nd_M 0 rfl rfl d_M_tear_12 ?_
  refine g_heap e12 ?_
  refine g_aload_n C0 1 d_M_tear_15 rfl rfl ?_
  refine g_iconst C0 (v := 0) d_M_tear_16 (by decide) ?_
  obtain ⟨h17, e17, hE⟩ := nm_some hE
  refine g_puti C0 CK_11 CT_11 32 (by decide) t_1122 rfl (by decide +kernel) nd_M 0 rfl rfl d_M_tear_17 ?_
  refine g_heap e17 ?_
  refine g_iload_n C0 0 d_M_tear_20 rfl rfl ?_
  obtain rfl := Option.some.inj hE
  exact g_iret C0 hr d_M_tear_21
theorem m_M_tear (l : Launch) (K : KT) (ad : Nat → Nat) (h : Hp) {res : Int32 × Hp} (hE : K_M_tear h = some res) : ConI l y_M_tear prog_13_method_84_code 2 (Option.some Jvm.ClassFile.FieldType.int) rm_M_tear K WM ad h [.ref (ad 100)] res.1 res.2 := fun sz =>
  con_start [(0, .ref (ad 100))] (by decide +kernel) rfl (Nat.le_of_ble_eq_true rfl) (fun p e s m args below meth c C0 hr hnm hsz => w_M_tear C0 hr h hE)
abbrev y_M_seed : MethodName := ⟨"CanoeSidesModel", "seed", "(I)I"⟩
abbrev rm_M_seed : Room := { frames := 0, cells := 0, slots := 0, locals := 0 }
theorem cd_M_seed : cwd y_M_seed 1 := by decide +kernel
theorem d_M_seed_0 : decode prog_13_method_85_code 0 = .ok (.iload_n 1, 1) := by decide +kernel
theorem d_M_seed_1 : decode prog_13_method_85_code 1 = .ok (.ifCond .ge 6, 3) := by decide +kernel
theorem d_M_seed_4 : decode prog_13_method_85_code 4 = .ok (.ldc 71, 2) := by decide +kernel
theorem d_M_seed_6 : decode prog_13_method_85_code 6 = .ok (.ireturn, 1) := by decide +kernel
theorem d_M_seed_7 : decode prog_13_method_85_code 7 = .ok (.aload_n 0, 1) := by decide +kernel
theorem d_M_seed_8 : decode prog_13_method_85_code 8 = .ok (.getfield 7, 3) := by decide +kernel
theorem d_M_seed_11 : decode prog_13_method_85_code 11 = .ok (.iconst 3, 1) := by decide +kernel
theorem d_M_seed_12 : decode prog_13_method_85_code 12 = .ok (.iaload, 1) := by decide +kernel
theorem d_M_seed_13 : decode prog_13_method_85_code 13 = .ok (.istore_n 2, 1) := by decide +kernel
theorem d_M_seed_14 : decode prog_13_method_85_code 14 = .ok (.aload_n 0, 1) := by decide +kernel
theorem d_M_seed_15 : decode prog_13_method_85_code 15 = .ok (.getfield 7, 3) := by decide +kernel
theorem d_M_seed_18 : decode prog_13_method_85_code 18 = .ok (.iconst 3, 1) := by decide +kernel
theorem d_M_seed_19 : decode prog_13_method_85_code 19 = .ok (.iload_n 1, 1) := by decide +kernel
theorem d_M_seed_20 : decode prog_13_method_85_code 20 = .ok (.iastore, 1) := by decide +kernel
theorem d_M_seed_21 : decode prog_13_method_85_code 21 = .ok (.iload_n 2, 1) := by decide +kernel
theorem d_M_seed_22 : decode prog_13_method_85_code 22 = .ok (.ireturn, 1) := by decide +kernel
theorem w_M_seed {p : Program} {l : Launch} {e : Env} {s : State} {m : MethodId} {args : Array Value} {below : List Frame} {meth : Method} {c : Code} {K : KT} {A : Nat → Prop} (C0 : Cx p s m args meth c prog_13_method_85_code "CanoeSidesModel" 3 K A) (hr : meth.sig.returnType = (Option.some Jvm.ClassFile.FieldType.int)) {ad : Nat → Nat} (a0 : Int32) (h : Hp) {res : Int32 × Hp} (hE : K_M_seed a0 h = some res) : G p l e rm_M_seed s m args below meth c K A WM 3 0 0 (QI s args below K A WM 0 0 ad res.1 res.2) 0 [(0, .ref (ad 100)), (1, .int a0)] [] ad h := by
  unfold K_M_seed at hE
  refine g_iload_n C0 1 d_M_seed_0 rfl rfl ?_
  have hB := ite_some hE
  refine g_if_ge C0 (tgt := 7) d_M_seed_1 (by decide) (fun c_ => ?_) (fun c_ => ?_)
  · replace hE := hB.1 c_
    refine g_aload_n C0 0 d_M_seed_7 rfl rfl ?_
    refine g_getr C0 CK_11 0 (by decide) t_1090 0 rfl rfl d_M_seed_8 ?_
    refine g_iconst C0 (v := 3) d_M_seed_11 (by decide) ?_
    obtain ⟨q12, v12, e12, hE⟩ := gA_some hE
    refine g_iald C0 1 rfl q12 d_M_seed_12 ?_
    refine g_top e12 ?_
    refine g_istore_n C0 [(2, .int v12), (0, .ref (ad 100)), (1, .int a0)] d_M_seed_13 rfl (by decide) rfl ?_
    refine g_aload_n C0 1 d_M_seed_14 rfl rfl ?_
    refine g_getr C0 CK_11 0 (by decide) t_1090 0 rfl rfl d_M_seed_15 ?_
    refine g_iconst C0 (v := 3) d_M_seed_18 (by decide) ?_
    refine g_iload_n C0 2 d_M_seed_19 rfl rfl ?_
    obtain ⟨q20, hE⟩ := sA_some hE
    obtain ⟨h20, e20, hE⟩ := nm_some hE
    refine g_iast C0 1 rfl nd_M q20 d_M_seed_20 ?_
    refine g_heap e20 ?_
    refine g_iload_n C0 0 d_M_seed_21 rfl rfl ?_
    obtain rfl := Option.some.inj hE
    exact g_iret C0 hr d_M_seed_22
  · replace hE := hB.2 c_
    refine g_ldc C0 (v := (-1000000002)) t_1199 d_M_seed_4 ?_
    obtain rfl := Option.some.inj hE
    exact g_iret C0 hr d_M_seed_6
theorem m_M_seed (l : Launch) (K : KT) (ad : Nat → Nat) (h : Hp) (a0 : Int32) {res : Int32 × Hp} (hE : K_M_seed a0 h = some res) : ConI l y_M_seed prog_13_method_85_code 3 (Option.some Jvm.ClassFile.FieldType.int) rm_M_seed K WM ad h [.ref (ad 100), .int a0] res.1 res.2 := fun sz =>
  con_start [(0, .ref (ad 100)), (1, .int a0)] (by decide +kernel) rfl (Nat.le_of_ble_eq_true rfl) (fun p e s m args below meth c C0 hr hnm hsz => w_M_seed C0 hr a0 h hE)
abbrev y_M_copy : MethodName := ⟨"CanoeSidesModel", "copy", "(II)V"⟩
abbrev rm_M_copy : Room := { frames := 0, cells := 0, slots := 0, locals := 0 }
theorem cd_M_copy : cwd y_M_copy 2 := by decide +kernel
theorem d_M_copy_0 : decode prog_13_method_86_code 0 = .ok (.iconst 0, 1) := by decide +kernel
theorem d_M_copy_1 : decode prog_13_method_86_code 1 = .ok (.istore_n 3, 1) := by decide +kernel
theorem d_M_copy_2 : decode prog_13_method_86_code 2 = .ok (.iload_n 3, 1) := by decide +kernel
theorem d_M_copy_3 : decode prog_13_method_86_code 3 = .ok (.iconst 4, 1) := by decide +kernel
theorem d_M_copy_4 : decode prog_13_method_86_code 4 = .ok (.if_icmp .ge 25, 3) := by decide +kernel
theorem d_M_copy_7 : decode prog_13_method_86_code 7 = .ok (.aload_n 0, 1) := by decide +kernel
theorem d_M_copy_8 : decode prog_13_method_86_code 8 = .ok (.getfield 7, 3) := by decide +kernel
theorem d_M_copy_11 : decode prog_13_method_86_code 11 = .ok (.iload_n 2, 1) := by decide +kernel
theorem d_M_copy_12 : decode prog_13_method_86_code 12 = .ok (.iload_n 3, 1) := by decide +kernel
theorem d_M_copy_13 : decode prog_13_method_86_code 13 = .ok (.iadd, 1) := by decide +kernel
theorem d_M_copy_14 : decode prog_13_method_86_code 14 = .ok (.aload_n 0, 1) := by decide +kernel
theorem d_M_copy_15 : decode prog_13_method_86_code 15 = .ok (.getfield 7, 3) := by decide +kernel
theorem d_M_copy_18 : decode prog_13_method_86_code 18 = .ok (.iload_n 1, 1) := by decide +kernel
theorem d_M_copy_19 : decode prog_13_method_86_code 19 = .ok (.iload_n 3, 1) := by decide +kernel
theorem d_M_copy_20 : decode prog_13_method_86_code 20 = .ok (.iadd, 1) := by decide +kernel
theorem d_M_copy_21 : decode prog_13_method_86_code 21 = .ok (.iaload, 1) := by decide +kernel
theorem d_M_copy_22 : decode prog_13_method_86_code 22 = .ok (.iastore, 1) := by decide +kernel
theorem d_M_copy_23 : decode prog_13_method_86_code 23 = .ok (.iinc 3 1, 3) := by decide +kernel
theorem d_M_copy_26 : decode prog_13_method_86_code 26 = .ok (.goto (-24), 3) := by decide +kernel
theorem d_M_copy_29 : decode prog_13_method_86_code 29 = .ok (.return_, 1) := by decide +kernel
theorem w_M_copy_L2 {p : Program} {l : Launch} {e : Env} {s : State} {m : MethodId} {args : Array Value} {below : List Frame} {meth : Method} {c : Code} {K : KT} {A : Nat → Prop} {Q : State → Prop} (C0 : Cx p s m args meth c prog_13_method_86_code "CanoeSidesModel" 4 K A) (hr : meth.sig.returnType = (Option.none : Option Jvm.ClassFile.FieldType)) {ad : Nat → Nat} (N : Nat) (x1 : Int32) (x2 : Int32) (x3 : Int32) (h : Hp) {x_ : (Int32 × Hp) ⊕ (Hp)} (hE : K_M_copy_L2 N x1 x2 x3 h = some x_) (hk1 : ∀ z_, x_ = .inl z_ → G p l e rm_M_copy s m args below meth c K A WM 4 0 0 Q 2 [(0, .ref (ad 100)), (1, .int x1), (2, .int x2), (3, .int z_.1)] [] ad z_.2) (hk3 : ∀ z_, x_ = .inr z_ → G p l e rm_M_copy s m args below meth c K A WM 4 0 0 Q 29 [] [] ad z_) : G p l e rm_M_copy s m args below meth c K A WM 4 0 0 Q 2 [(0, .ref (ad 100)), (1, .int x1), (2, .int x2), (3, .int x3)] [] ad h := by
  unfold K_M_copy_L2 at hE
  refine g_iload_n C0 3 d_M_copy_2 rfl rfl ?_
  refine g_iconst C0 (v := 4) d_M_copy_3 (by decide) ?_
  have hB := ite_some hE
  refine g_icmp_ge C0 (tgt := 29) d_M_copy_4 (by decide) (fun c_ => ?_) (fun c_ => ?_)
  · replace hE := hB.1 c_
    refine g_sub [] (L' := []) rfl ?_
    exact hk3 _ (Option.some.inj hE).symm
  · replace hE := hB.2 c_
    refine g_aload_n C0 0 d_M_copy_7 rfl rfl ?_
    refine g_getr C0 CK_11 0 (by decide) t_1090 0 rfl rfl d_M_copy_8 ?_
    refine g_iload_n C0 2 d_M_copy_11 rfl rfl ?_
    refine g_iload_n C0 3 d_M_copy_12 rfl rfl ?_
    refine g_iadd C0 d_M_copy_13 ?_
    refine g_aload_n C0 0 d_M_copy_14 rfl rfl ?_
    refine g_getr C0 CK_11 0 (by decide) t_1090 0 rfl rfl d_M_copy_15 ?_
    refine g_iload_n C0 1 d_M_copy_18 rfl rfl ?_
    refine g_iload_n C0 3 d_M_copy_19 rfl rfl ?_
    refine g_iadd C0 d_M_copy_20 ?_
    obtain ⟨q21, v21, e21, hE⟩ := gA_some hE
    refine g_iald C0 1 rfl q21 d_M_copy_21 ?_
    refine g_top e21 ?_
    obtain ⟨q22, hE⟩ := sA_some hE
    obtain ⟨h22, e22, hE⟩ := nm_some hE
    refine g_iast C0 1 rfl nd_M q22 d_M_copy_22 ?_
    refine g_heap e22 ?_
    obtain ⟨v23, e23, hE⟩ := nm_some hE
    refine g_iinc C0 3 [(3, .int v23), (0, .ref (ad 100)), (1, .int x1), (2, .int x2)] d_M_copy_23 rfl (by rw [e23]; rfl) (by decide) rfl ?_
    refine g_goto C0 (tgt := 2) d_M_copy_26 (by decide) ?_
    refine g_sub [1, 2, 3, 0] (L' := [(0, .ref (ad 100)), (1, .int x1), (2, .int x2), (3, .int v23)]) rfl ?_
    exact hk1 _ (Option.some.inj hE).symm
theorem w_M_copy {p : Program} {l : Launch} {e : Env} {s : State} {m : MethodId} {args : Array Value} {below : List Frame} {meth : Method} {c : Code} {K : KT} {A : Nat → Prop} (C0 : Cx p s m args meth c prog_13_method_86_code "CanoeSidesModel" 4 K A) (hr : meth.sig.returnType = (Option.none : Option Jvm.ClassFile.FieldType)) {ad : Nat → Nat} (N : Nat) (a0 : Int32) (b0 : Int32) (h : Hp) {res : Hp} (hE : K_M_copy N a0 b0 h = some res) : G p l e rm_M_copy s m args below meth c K A WM 4 0 0 (QV s args below K A WM 0 0 ad res) 0 [(0, .ref (ad 100)), (1, .int a0), (2, .int b0)] [] ad h := by
  unfold K_M_copy at hE
  refine g_iconst C0 (v := 0) d_M_copy_0 (by decide) ?_
  refine g_istore_n C0 [(3, .int 0), (0, .ref (ad 100)), (1, .int a0), (2, .int b0)] d_M_copy_1 rfl (by decide) rfl ?_
  refine g_sub [1, 2, 3, 0] (L' := [(0, .ref (ad 100)), (1, .int a0), (2, .int b0), (3, .int 0)]) rfl ?_
  obtain ⟨t2, z2, hE⟩ := bd_some hE
  refine loopG (fun z_ : Int32 × Hp => K_M_copy_L2 N a0 b0 z_.1 z_.2) (fun z_ : Int32 × Hp => G p l e rm_M_copy s m args below meth c K A WM 4 0 0 _ 2 [(0, .ref (ad 100)), (1, .int a0), (2, .int b0), (3, .int z_.1)] [] ad z_.2) (fun z_ : Hp => G p l e rm_M_copy s m args below meth c K A WM 4 0 0 _ 29 [] [] ad z_) (fun z_ x_ hz k1 k2 => w_M_copy_L2 C0 hr N a0 b0 z_.1 z_.2 hz k1 k2) _ _ _ z2 ?_
  try dsimp only
  obtain rfl := Option.some.inj hE
  exact g_vret C0 hr d_M_copy_29
theorem m_M_copy (l : Launch) (K : KT) (ad : Nat → Nat) (h : Hp) (N : Nat) (a0 : Int32) (b0 : Int32) {res : Hp} (hE : K_M_copy N a0 b0 h = some res) : ConV l y_M_copy prog_13_method_86_code 4 (Option.none : Option Jvm.ClassFile.FieldType) rm_M_copy K WM ad h [.ref (ad 100), .int a0, .int b0] res := fun sz =>
  con_start [(0, .ref (ad 100)), (1, .int a0), (2, .int b0)] (by decide +kernel) rfl (Nat.le_of_ble_eq_true rfl) (fun p e s m args below meth c C0 hr hnm hsz => w_M_copy C0 hr N a0 b0 h hE)
abbrev y_M_keep : MethodName := ⟨"CanoeSidesModel", "keep", "(I)I"⟩
abbrev rm_M_keep : Room := { frames := 1, cells := 0, slots := 0, locals := 25 }
theorem cd_M_keep : cwd y_M_keep 1 := by decide +kernel
theorem d_M_keep_0 : decode prog_13_method_87_code 0 = .ok (.iload_n 1, 1) := by decide +kernel
theorem d_M_keep_1 : decode prog_13_method_87_code 1 = .ok (.i2l, 1) := by decide +kernel
theorem d_M_keep_2 : decode prog_13_method_87_code 2 = .ok (.lconst 0, 1) := by decide +kernel
theorem d_M_keep_3 : decode prog_13_method_87_code 3 = .ok (.lconst 1, 1) := by decide +kernel
theorem d_M_keep_4 : decode prog_13_method_87_code 4 = .ok (.invokestatic 67, 3) := by decide +kernel
theorem d_M_keep_7 : decode prog_13_method_87_code 7 = .ok (.ifCond .ne 6, 3) := by decide +kernel
theorem d_M_keep_10 : decode prog_13_method_87_code 10 = .ok (.ldc 160, 2) := by decide +kernel
theorem d_M_keep_12 : decode prog_13_method_87_code 12 = .ok (.ireturn, 1) := by decide +kernel
theorem d_M_keep_13 : decode prog_13_method_87_code 13 = .ok (.aload_n 0, 1) := by decide +kernel
theorem d_M_keep_14 : decode prog_13_method_87_code 14 = .ok (.iconst 0, 1) := by decide +kernel
theorem d_M_keep_15 : decode prog_13_method_87_code 15 = .ok (.iconst 4, 1) := by decide +kernel
theorem d_M_keep_16 : decode prog_13_method_87_code 16 = .ok (.iconst 4, 1) := by decide +kernel
theorem d_M_keep_17 : decode prog_13_method_87_code 17 = .ok (.iload_n 1, 1) := by decide +kernel
theorem d_M_keep_18 : decode prog_13_method_87_code 18 = .ok (.imul, 1) := by decide +kernel
theorem d_M_keep_19 : decode prog_13_method_87_code 19 = .ok (.iadd, 1) := by decide +kernel
theorem d_M_keep_20 : decode prog_13_method_87_code 20 = .ok (.invokevirtual 323, 3) := by decide +kernel
theorem d_M_keep_23 : decode prog_13_method_87_code 23 = .ok (.aload_n 0, 1) := by decide +kernel
theorem d_M_keep_24 : decode prog_13_method_87_code 24 = .ok (.getfield 13, 3) := by decide +kernel
theorem d_M_keep_27 : decode prog_13_method_87_code 27 = .ok (.iload_n 1, 1) := by decide +kernel
theorem d_M_keep_28 : decode prog_13_method_87_code 28 = .ok (.iconst 1, 1) := by decide +kernel
theorem d_M_keep_29 : decode prog_13_method_87_code 29 = .ok (.bastore, 1) := by decide +kernel
theorem d_M_keep_30 : decode prog_13_method_87_code 30 = .ok (.aload_n 0, 1) := by decide +kernel
theorem d_M_keep_31 : decode prog_13_method_87_code 31 = .ok (.iconst 0, 1) := by decide +kernel
theorem d_M_keep_32 : decode prog_13_method_87_code 32 = .ok (.putfield 140, 3) := by decide +kernel
theorem d_M_keep_35 : decode prog_13_method_87_code 35 = .ok (.iconst 1, 1) := by decide +kernel
theorem d_M_keep_36 : decode prog_13_method_87_code 36 = .ok (.ireturn, 1) := by decide +kernel
theorem w_M_keep {p : Program} {l : Launch} {e : Env} {s : State} {m : MethodId} {args : Array Value} {below : List Frame} {meth : Method} {c : Code} {K : KT} {A : Nat → Prop} (C0 : Cx p s m args meth c prog_13_method_87_code "CanoeSidesModel" 2 K A) (hr : meth.sig.returnType = (Option.some Jvm.ClassFile.FieldType.int)) {ad : Nat → Nat} (N : Nat) (a0 : Int32) (h : Hp) {res : Int32 × Hp} (hE : K_M_keep N a0 h = some res) : G p l e rm_M_keep s m args below meth c K A WM 2 0 0 (QI s args below K A WM 0 0 ad res.1 res.2) 0 [(0, .ref (ad 100)), (1, .int a0)] [] ad h := by
  unfold K_M_keep at hE
  refine g_iload_n C0 1 d_M_keep_0 rfl rfl ?_
  refine g_i2l C0 d_M_keep_1 ?_
  refine g_lconst C0 (v := 0) d_M_keep_2 (by decide) ?_
  refine g_lconst C0 (v := 1) d_M_keep_3 (by decide) ?_
  obtain ⟨v4, z4, hE⟩ := bd_some hE
  refine g_calliP C0 nd_M [] rfl (sb_E_M) (runS C0 (m_M_in l K ad h (Int32.toInt64 a0) 0 1 z4) 3 ⟨t_1196, t_1197, t_97, t_1198⟩ cd_M_in (by decide) (sb_E_M) nd_E rfl rfl (Nat.le_of_ble_eq_true rfl) d_M_keep_4) ?_
  have hB := ite_some hE
  refine g_if_ne C0 (tgt := 13) d_M_keep_7 (by decide) (fun c_ => ?_) (fun c_ => ?_)
  · replace hE := hB.2 c_
    refine g_aload_n C0 0 d_M_keep_13 rfl rfl ?_
    refine g_iconst C0 (v := 0) d_M_keep_14 (by decide) ?_
    refine g_iconst C0 (v := 4) d_M_keep_15 (by decide) ?_
    refine g_iconst C0 (v := 4) d_M_keep_16 (by decide) ?_
    refine g_iload_n C0 1 d_M_keep_17 rfl rfl ?_
    refine g_imul C0 d_M_keep_18 ?_
    refine g_iadd C0 d_M_keep_19 ?_
    obtain ⟨h20, z20, hE⟩ := bd_some hE
    refine g_callv C0 nd_M [100, 101, 102, 103, 104, 105, 106, 107, 108, 109, 110, 111, 112, 113, 114, 115] rfl (sbW_self WM) (runV C0 (m_M_copy l K ad h N 0 (4 + (4 * a0)) z20) 2 rfl ⟨t_1533, t_1535, t_83, t_97, t_1536⟩ cd_M_copy (by decide) 0 rfl rfl (sbW_self WM) nd_M rfl rfl (Nat.le_of_ble_eq_true rfl) d_M_keep_20) ?_
    refine g_mx [100, 101, 102, 103, 104, 105, 106, 107, 108, 109, 110, 111, 112, 113, 114, 115] rfl ?_
    refine g_aload_n C0 0 d_M_keep_23 rfl rfl ?_
    refine g_getr C0 CK_11 1 (by decide) t_1091 0 rfl rfl d_M_keep_24 ?_
    refine g_iload_n C0 1 d_M_keep_27 rfl rfl ?_
    refine g_iconst C0 (v := 1) d_M_keep_28 (by decide) ?_
    obtain ⟨q29, hE⟩ := sA_some hE
    obtain ⟨h29, e29, hE⟩ := nm_some hE
    refine g_zast C0 2 rfl nd_M q29 (by decide) d_M_keep_29 ?_
    refine g_heap e29 ?_
    refine g_aload_n C0 0 d_M_keep_30 rfl rfl ?_
    refine g_iconst C0 (v := 0) d_M_keep_31 (by decide) ?_
    obtain ⟨h32, e32, hE⟩ := nm_some hE
    refine g_puti C0 CK_11 CT_11 16 (by decide) t_1106 rfl (by decide +kernel) nd_M 0 rfl rfl d_M_keep_32 ?_
    refine g_heap e32 ?_
    refine g_iconst C0 (v := 1) d_M_keep_35 (by decide) ?_
    obtain rfl := Option.some.inj hE
    exact g_iret C0 hr d_M_keep_36
  · replace hE := hB.1 c_
    refine g_ldc C0 (v := (-1000000001)) t_1283 d_M_keep_10 ?_
    obtain rfl := Option.some.inj hE
    exact g_iret C0 hr d_M_keep_12
theorem m_M_keep (l : Launch) (K : KT) (ad : Nat → Nat) (h : Hp) (N : Nat) (a0 : Int32) {res : Int32 × Hp} (hE : K_M_keep N a0 h = some res) : ConI l y_M_keep prog_13_method_87_code 2 (Option.some Jvm.ClassFile.FieldType.int) rm_M_keep K WM ad h [.ref (ad 100), .int a0] res.1 res.2 := fun sz =>
  con_start [(0, .ref (ad 100)), (1, .int a0)] (by decide +kernel) rfl (Nat.le_of_ble_eq_true rfl) (fun p e s m args below meth c C0 hr hnm hsz => w_M_keep C0 hr N a0 h hE)
abbrev y_M_goBack : MethodName := ⟨"CanoeSidesModel", "goBack", "(I)I"⟩
abbrev rm_M_goBack : Room := { frames := 1, cells := 0, slots := 0, locals := 25 }
theorem cd_M_goBack : cwd y_M_goBack 1 := by decide +kernel
theorem d_M_goBack_0 : decode prog_13_method_88_code 0 = .ok (.iload_n 1, 1) := by decide +kernel
theorem d_M_goBack_1 : decode prog_13_method_88_code 1 = .ok (.i2l, 1) := by decide +kernel
theorem d_M_goBack_2 : decode prog_13_method_88_code 2 = .ok (.lconst 0, 1) := by decide +kernel
theorem d_M_goBack_3 : decode prog_13_method_88_code 3 = .ok (.lconst 1, 1) := by decide +kernel
theorem d_M_goBack_4 : decode prog_13_method_88_code 4 = .ok (.invokestatic 67, 3) := by decide +kernel
theorem d_M_goBack_7 : decode prog_13_method_88_code 7 = .ok (.ifCond .ne 6, 3) := by decide +kernel
theorem d_M_goBack_10 : decode prog_13_method_88_code 10 = .ok (.ldc 160, 2) := by decide +kernel
theorem d_M_goBack_12 : decode prog_13_method_88_code 12 = .ok (.ireturn, 1) := by decide +kernel
theorem d_M_goBack_13 : decode prog_13_method_88_code 13 = .ok (.aload_n 0, 1) := by decide +kernel
theorem d_M_goBack_14 : decode prog_13_method_88_code 14 = .ok (.getfield 13, 3) := by decide +kernel
theorem d_M_goBack_17 : decode prog_13_method_88_code 17 = .ok (.iload_n 1, 1) := by decide +kernel
theorem d_M_goBack_18 : decode prog_13_method_88_code 18 = .ok (.baload, 1) := by decide +kernel
theorem d_M_goBack_19 : decode prog_13_method_88_code 19 = .ok (.ifCond .ne 6, 3) := by decide +kernel
theorem d_M_goBack_22 : decode prog_13_method_88_code 22 = .ok (.ldc 215, 2) := by decide +kernel
theorem d_M_goBack_24 : decode prog_13_method_88_code 24 = .ok (.ireturn, 1) := by decide +kernel
theorem d_M_goBack_25 : decode prog_13_method_88_code 25 = .ok (.aload_n 0, 1) := by decide +kernel
theorem d_M_goBack_26 : decode prog_13_method_88_code 26 = .ok (.iconst 4, 1) := by decide +kernel
theorem d_M_goBack_27 : decode prog_13_method_88_code 27 = .ok (.iconst 4, 1) := by decide +kernel
theorem d_M_goBack_28 : decode prog_13_method_88_code 28 = .ok (.iload_n 1, 1) := by decide +kernel
theorem d_M_goBack_29 : decode prog_13_method_88_code 29 = .ok (.imul, 1) := by decide +kernel
theorem d_M_goBack_30 : decode prog_13_method_88_code 30 = .ok (.iadd, 1) := by decide +kernel
theorem d_M_goBack_31 : decode prog_13_method_88_code 31 = .ok (.iconst 0, 1) := by decide +kernel
theorem d_M_goBack_32 : decode prog_13_method_88_code 32 = .ok (.invokevirtual 323, 3) := by decide +kernel
theorem d_M_goBack_35 : decode prog_13_method_88_code 35 = .ok (.aload_n 0, 1) := by decide +kernel
theorem d_M_goBack_36 : decode prog_13_method_88_code 36 = .ok (.iconst 0, 1) := by decide +kernel
theorem d_M_goBack_37 : decode prog_13_method_88_code 37 = .ok (.putfield 140, 3) := by decide +kernel
theorem d_M_goBack_40 : decode prog_13_method_88_code 40 = .ok (.iconst 1, 1) := by decide +kernel
theorem d_M_goBack_41 : decode prog_13_method_88_code 41 = .ok (.ireturn, 1) := by decide +kernel
theorem w_M_goBack {p : Program} {l : Launch} {e : Env} {s : State} {m : MethodId} {args : Array Value} {below : List Frame} {meth : Method} {c : Code} {K : KT} {A : Nat → Prop} (C0 : Cx p s m args meth c prog_13_method_88_code "CanoeSidesModel" 2 K A) (hr : meth.sig.returnType = (Option.some Jvm.ClassFile.FieldType.int)) {ad : Nat → Nat} (N : Nat) (a0 : Int32) (h : Hp) {res : Int32 × Hp} (hE : K_M_goBack N a0 h = some res) : G p l e rm_M_goBack s m args below meth c K A WM 2 0 0 (QI s args below K A WM 0 0 ad res.1 res.2) 0 [(0, .ref (ad 100)), (1, .int a0)] [] ad h := by
  unfold K_M_goBack at hE
  refine g_iload_n C0 1 d_M_goBack_0 rfl rfl ?_
  refine g_i2l C0 d_M_goBack_1 ?_
  refine g_lconst C0 (v := 0) d_M_goBack_2 (by decide) ?_
  refine g_lconst C0 (v := 1) d_M_goBack_3 (by decide) ?_
  obtain ⟨v4, z4, hE⟩ := bd_some hE
  refine g_calliP C0 nd_M [] rfl (sb_E_M) (runS C0 (m_M_in l K ad h (Int32.toInt64 a0) 0 1 z4) 3 ⟨t_1196, t_1197, t_97, t_1198⟩ cd_M_in (by decide) (sb_E_M) nd_E rfl rfl (Nat.le_of_ble_eq_true rfl) d_M_goBack_4) ?_
  have hB := ite_some hE
  refine g_if_ne C0 (tgt := 13) d_M_goBack_7 (by decide) (fun c_ => ?_) (fun c_ => ?_)
  · replace hE := hB.2 c_
    refine g_aload_n C0 0 d_M_goBack_13 rfl rfl ?_
    refine g_getr C0 CK_11 1 (by decide) t_1091 0 rfl rfl d_M_goBack_14 ?_
    refine g_iload_n C0 1 d_M_goBack_17 rfl rfl ?_
    obtain ⟨q18, v18, e18, hE⟩ := gA_some hE
    refine g_zald C0 2 rfl q18 d_M_goBack_18 ?_
    refine g_top e18 ?_
    have hB := ite_some hE
    refine g_if_ne C0 (tgt := 25) d_M_goBack_19 (by decide) (fun c_ => ?_) (fun c_ => ?_)
    · replace hE := hB.2 c_
      refine g_aload_n C0 0 d_M_goBack_25 rfl rfl ?_
      refine g_iconst C0 (v := 4) d_M_goBack_26 (by decide) ?_
      refine g_iconst C0 (v := 4) d_M_goBack_27 (by decide) ?_
      refine g_iload_n C0 1 d_M_goBack_28 rfl rfl ?_
      refine g_imul C0 d_M_goBack_29 ?_
      refine g_iadd C0 d_M_goBack_30 ?_
      refine g_iconst C0 (v := 0) d_M_goBack_31 (by decide) ?_
      obtain ⟨h32, z32, hE⟩ := bd_some hE
      refine g_callv C0 nd_M [100, 101, 102, 103, 104, 105, 106, 107, 108, 109, 110, 111, 112, 113, 114, 115] rfl (sbW_self WM) (runV C0 (m_M_copy l K ad h N (4 + (4 * a0)) 0 z32) 2 rfl ⟨t_1533, t_1535, t_83, t_97, t_1536⟩ cd_M_copy (by decide) 0 rfl rfl (sbW_self WM) nd_M rfl rfl (Nat.le_of_ble_eq_true rfl) d_M_goBack_32) ?_
      refine g_mx [100, 101, 102, 103, 104, 105, 106, 107, 108, 109, 110, 111, 112, 113, 114, 115] rfl ?_
      refine g_aload_n C0 0 d_M_goBack_35 rfl rfl ?_
      refine g_iconst C0 (v := 0) d_M_goBack_36 (by decide) ?_
      obtain ⟨h37, e37, hE⟩ := nm_some hE
      refine g_puti C0 CK_11 CT_11 16 (by decide) t_1106 rfl (by decide +kernel) nd_M 0 rfl rfl d_M_goBack_37 ?_
      refine g_heap e37 ?_
      refine g_iconst C0 (v := 1) d_M_goBack_40 (by decide) ?_
      obtain rfl := Option.some.inj hE
      exact g_iret C0 hr d_M_goBack_41
    · replace hE := hB.1 c_
      refine g_ldc C0 (v := (-1000000003)) t_1296 d_M_goBack_22 ?_
      obtain rfl := Option.some.inj hE
      exact g_iret C0 hr d_M_goBack_24
  · replace hE := hB.1 c_
    refine g_ldc C0 (v := (-1000000001)) t_1283 d_M_goBack_10 ?_
    obtain rfl := Option.some.inj hE
    exact g_iret C0 hr d_M_goBack_12
theorem m_M_goBack (l : Launch) (K : KT) (ad : Nat → Nat) (h : Hp) (N : Nat) (a0 : Int32) {res : Int32 × Hp} (hE : K_M_goBack N a0 h = some res) : ConI l y_M_goBack prog_13_method_88_code 2 (Option.some Jvm.ClassFile.FieldType.int) rm_M_goBack K WM ad h [.ref (ad 100), .int a0] res.1 res.2 := fun sz =>
  con_start [(0, .ref (ad 100)), (1, .int a0)] (by decide +kernel) rfl (Nat.le_of_ble_eq_true rfl) (fun p e s m args below meth c C0 hr hnm hsz => w_M_goBack C0 hr N a0 h hE)
