/-! walks, by program -/
abbrev y_M_in : MethodName := ⟨"CanoeSidesModel", "in", "(JJJ)Z"⟩
abbrev rm_M_in : Room := { frames := 0, cells := 0, slots := 0, locals := 0 }
theorem cd_M_in : cwd y_M_in 3 := by decide +kernel
theorem d_M_in_0 : decode prog_13_method_3_code 0 = .ok (.lload_n 0, 1) := by decide +kernel
theorem d_M_in_1 : decode prog_13_method_3_code 1 = .ok (.lload_n 2, 1) := by decide +kernel
theorem d_M_in_2 : decode prog_13_method_3_code 2 = .ok (.lcmp, 1) := by decide +kernel
theorem d_M_in_3 : decode prog_13_method_3_code 3 = .ok (.ifCond .lt 14, 3) := by decide +kernel
theorem d_M_in_6 : decode prog_13_method_3_code 6 = .ok (.lload_n 0, 1) := by decide +kernel
theorem d_M_in_7 : decode prog_13_method_3_code 7 = .ok (.lload 4, 2) := by decide +kernel
theorem d_M_in_9 : decode prog_13_method_3_code 9 = .ok (.lcmp, 1) := by decide +kernel
theorem d_M_in_10 : decode prog_13_method_3_code 10 = .ok (.ifCond .gt 7, 3) := by decide +kernel
theorem d_M_in_13 : decode prog_13_method_3_code 13 = .ok (.iconst 1, 1) := by decide +kernel
theorem d_M_in_14 : decode prog_13_method_3_code 14 = .ok (.goto 4, 3) := by decide +kernel
theorem d_M_in_17 : decode prog_13_method_3_code 17 = .ok (.iconst 0, 1) := by decide +kernel
theorem d_M_in_18 : decode prog_13_method_3_code 18 = .ok (.ireturn, 1) := by decide +kernel
theorem w_M_in {p : Program} {l : Launch} {e : Env} {s : State} {m : MethodId} {args : Array Value} {below : List Frame} {meth : Method} {c : Code} {K : KT} {A : Nat → Prop} (C0 : Cx p s m args meth c prog_13_method_3_code "CanoeSidesModel" 6 K A) (hr : meth.sig.returnType = (Option.some Jvm.ClassFile.FieldType.boolean)) {ad : Nat → Nat} (a0 : Int64) (b0 : Int64) (c0 : Int64) (h : Hp) {res : Int32} (hE : K_M_in a0 b0 c0 = some res) : G p l e rm_M_in s m args below meth c K A WE 6 0 0 (QI s args below K A WE 0 0 ad res h) 0 [(0, .long a0), (2, .long b0), (4, .long c0)] [] ad h := by
  unfold K_M_in at hE
  refine g_lload_n C0 0 d_M_in_0 rfl rfl ?_
  refine g_lload_n C0 1 d_M_in_1 rfl rfl ?_
  refine g_lcmp C0 d_M_in_2 ?_
  have hB := ite_some hE
  refine g_if_lt C0 (tgt := 17) d_M_in_3 (by decide) (fun c_ => ?_) (fun c_ => ?_)
  · replace hE := hB.1 c_
    refine g_iconst C0 (v := 0) d_M_in_17 (by decide) ?_
    obtain rfl := Option.some.inj hE
    exact g_zret C0 hr nz0 d_M_in_18
  · replace hE := hB.2 c_
    refine g_lload_n C0 0 d_M_in_6 rfl rfl ?_
    refine g_lload C0 2 d_M_in_7 rfl ?_
    refine g_lcmp C0 d_M_in_9 ?_
    have hB := ite_some hE
    refine g_if_gt C0 (tgt := 17) d_M_in_10 (by decide) (fun c_ => ?_) (fun c_ => ?_)
    · replace hE := hB.1 c_
      refine g_iconst C0 (v := 0) d_M_in_17 (by decide) ?_
      obtain rfl := Option.some.inj hE
      exact g_zret C0 hr nz0 d_M_in_18
    · replace hE := hB.2 c_
      refine g_iconst C0 (v := 1) d_M_in_13 (by decide) ?_
      refine g_goto C0 (tgt := 18) d_M_in_14 (by decide) ?_
      obtain rfl := Option.some.inj hE
      exact g_zret C0 hr nz1 d_M_in_18
theorem m_M_in (l : Launch) (K : KT) (ad : Nat → Nat) (h : Hp) (a0 : Int64) (b0 : Int64) (c0 : Int64) {res : Int32} (hE : K_M_in a0 b0 c0 = some res) : ConI l y_M_in prog_13_method_3_code 6 (Option.some Jvm.ClassFile.FieldType.boolean) rm_M_in K WE ad h [.long a0, .long b0, .long c0] res h := fun sz =>
  con_start [(0, .long a0), (2, .long b0), (4, .long c0)] (by decide +kernel) rfl (Nat.le_of_ble_eq_true rfl) (fun p e s m args below meth c C0 hr hnm hsz => w_M_in C0 hr a0 b0 c0 h hE)
abbrev y_M_one : MethodName := ⟨"CanoeSidesModel", "one", "(Z)I"⟩
abbrev rm_M_one : Room := { frames := 0, cells := 0, slots := 0, locals := 0 }
theorem cd_M_one : cwd y_M_one 1 := by decide +kernel
theorem d_M_one_0 : decode prog_13_method_4_code 0 = .ok (.iload_n 0, 1) := by decide +kernel
theorem d_M_one_1 : decode prog_13_method_4_code 1 = .ok (.ifCond .eq 7, 3) := by decide +kernel
theorem d_M_one_4 : decode prog_13_method_4_code 4 = .ok (.iconst 1, 1) := by decide +kernel
theorem d_M_one_5 : decode prog_13_method_4_code 5 = .ok (.goto 4, 3) := by decide +kernel
theorem d_M_one_8 : decode prog_13_method_4_code 8 = .ok (.iconst 0, 1) := by decide +kernel
theorem d_M_one_9 : decode prog_13_method_4_code 9 = .ok (.ireturn, 1) := by decide +kernel
theorem w_M_one {p : Program} {l : Launch} {e : Env} {s : State} {m : MethodId} {args : Array Value} {below : List Frame} {meth : Method} {c : Code} {K : KT} {A : Nat → Prop} (C0 : Cx p s m args meth c prog_13_method_4_code "CanoeSidesModel" 1 K A) (hr : meth.sig.returnType = (Option.some Jvm.ClassFile.FieldType.int)) {ad : Nat → Nat} (a0 : Int32) (h : Hp) {res : Int32} (hE : K_M_one a0 = some res) : G p l e rm_M_one s m args below meth c K A WE 1 0 0 (QI s args below K A WE 0 0 ad res h) 0 [(0, .int a0)] [] ad h := by
  unfold K_M_one at hE
  refine g_iload_n C0 0 d_M_one_0 rfl rfl ?_
  have hB := ite_some hE
  refine g_if_eq C0 (tgt := 8) d_M_one_1 (by decide) (fun c_ => ?_) (fun c_ => ?_)
  · replace hE := hB.1 c_
    refine g_iconst C0 (v := 0) d_M_one_8 (by decide) ?_
    obtain rfl := Option.some.inj hE
    exact g_iret C0 hr d_M_one_9
  · replace hE := hB.2 c_
    refine g_iconst C0 (v := 1) d_M_one_4 (by decide) ?_
    refine g_goto C0 (tgt := 9) d_M_one_5 (by decide) ?_
    obtain rfl := Option.some.inj hE
    exact g_iret C0 hr d_M_one_9
theorem m_M_one (l : Launch) (K : KT) (ad : Nat → Nat) (h : Hp) (a0 : Int32) {res : Int32} (hE : K_M_one a0 = some res) : ConI l y_M_one prog_13_method_4_code 1 (Option.some Jvm.ClassFile.FieldType.int) rm_M_one K WE ad h [.int a0] res h := fun sz =>
  con_start [(0, .int a0)] (by decide +kernel) rfl (Nat.le_of_ble_eq_true rfl) (fun p e s m args below meth c C0 hr hnm hsz => w_M_one C0 hr a0 h hE)
abbrev y_M_has : MethodName := ⟨"CanoeSidesModel", "has", "(II)Z"⟩
abbrev rm_M_has : Room := { frames := 0, cells := 0, slots := 0, locals := 0 }
theorem cd_M_has : cwd y_M_has 2 := by decide +kernel
theorem d_M_has_0 : decode prog_13_method_5_code 0 = .ok (.iload_n 0, 1) := by decide +kernel
theorem d_M_has_1 : decode prog_13_method_5_code 1 = .ok (.iload_n 1, 1) := by decide +kernel
theorem d_M_has_2 : decode prog_13_method_5_code 2 = .ok (.ishr, 1) := by decide +kernel
theorem d_M_has_3 : decode prog_13_method_5_code 3 = .ok (.iconst 1, 1) := by decide +kernel
theorem d_M_has_4 : decode prog_13_method_5_code 4 = .ok (.iand, 1) := by decide +kernel
theorem d_M_has_5 : decode prog_13_method_5_code 5 = .ok (.iconst 1, 1) := by decide +kernel
theorem d_M_has_6 : decode prog_13_method_5_code 6 = .ok (.if_icmp .ne 7, 3) := by decide +kernel
theorem d_M_has_9 : decode prog_13_method_5_code 9 = .ok (.iconst 1, 1) := by decide +kernel
theorem d_M_has_10 : decode prog_13_method_5_code 10 = .ok (.goto 4, 3) := by decide +kernel
theorem d_M_has_13 : decode prog_13_method_5_code 13 = .ok (.iconst 0, 1) := by decide +kernel
theorem d_M_has_14 : decode prog_13_method_5_code 14 = .ok (.ireturn, 1) := by decide +kernel
theorem w_M_has {p : Program} {l : Launch} {e : Env} {s : State} {m : MethodId} {args : Array Value} {below : List Frame} {meth : Method} {c : Code} {K : KT} {A : Nat → Prop} (C0 : Cx p s m args meth c prog_13_method_5_code "CanoeSidesModel" 2 K A) (hr : meth.sig.returnType = (Option.some Jvm.ClassFile.FieldType.boolean)) {ad : Nat → Nat} (a0 : Int32) (b0 : Int32) (h : Hp) {res : Int32} (hE : K_M_has a0 b0 = some res) : G p l e rm_M_has s m args below meth c K A WE 2 0 0 (QI s args below K A WE 0 0 ad res h) 0 [(0, .int a0), (1, .int b0)] [] ad h := by
  unfold K_M_has at hE
  refine g_iload_n C0 0 d_M_has_0 rfl rfl ?_
  refine g_iload_n C0 1 d_M_has_1 rfl rfl ?_
  refine g_ishr C0 d_M_has_2 ?_
  refine g_iconst C0 (v := 1) d_M_has_3 (by decide) ?_
  refine g_iand C0 d_M_has_4 ?_
  refine g_iconst C0 (v := 1) d_M_has_5 (by decide) ?_
  have hB := ite_some hE
  refine g_icmp_ne C0 (tgt := 13) d_M_has_6 (by decide) (fun c_ => ?_) (fun c_ => ?_)
  · replace hE := hB.2 c_
    refine g_iconst C0 (v := 0) d_M_has_13 (by decide) ?_
    obtain rfl := Option.some.inj hE
    exact g_zret C0 hr nz0 d_M_has_14
  · replace hE := hB.1 c_
    refine g_iconst C0 (v := 1) d_M_has_9 (by decide) ?_
    refine g_goto C0 (tgt := 14) d_M_has_10 (by decide) ?_
    obtain rfl := Option.some.inj hE
    exact g_zret C0 hr nz1 d_M_has_14
theorem m_M_has (l : Launch) (K : KT) (ad : Nat → Nat) (h : Hp) (a0 : Int32) (b0 : Int32) {res : Int32} (hE : K_M_has a0 b0 = some res) : ConI l y_M_has prog_13_method_5_code 2 (Option.some Jvm.ClassFile.FieldType.boolean) rm_M_has K WE ad h [.int a0, .int b0] res h := fun sz =>
  con_start [(0, .int a0), (1, .int b0)] (by decide +kernel) rfl (Nat.le_of_ble_eq_true rfl) (fun p e s m args below meth c C0 hr hnm hsz => w_M_has C0 hr a0 b0 h hE)
abbrev y_M_tellNothing : MethodName := ⟨"CanoeSidesModel", "tellNothing", "(I)V"⟩
abbrev rm_M_tellNothing : Room := { frames := 0, cells := 0, slots := 0, locals := 0 }
theorem cd_M_tellNothing : cwd y_M_tellNothing 1 := by decide +kernel
theorem d_M_tellNothing_0 : decode prog_13_method_6_code 0 = .ok (.iconst 0, 1) := by decide +kernel
theorem d_M_tellNothing_1 : decode prog_13_method_6_code 1 = .ok (.istore_n 2, 1) := by decide +kernel
theorem d_M_tellNothing_2 : decode prog_13_method_6_code 2 = .ok (.iload_n 2, 1) := by decide +kernel
theorem d_M_tellNothing_3 : decode prog_13_method_6_code 3 = .ok (.bipush 12, 2) := by decide +kernel
theorem d_M_tellNothing_5 : decode prog_13_method_6_code 5 = .ok (.if_icmp .ge 60, 3) := by decide +kernel
theorem d_M_tellNothing_8 : decode prog_13_method_6_code 8 = .ok (.aload_n 0, 1) := by decide +kernel
theorem d_M_tellNothing_9 : decode prog_13_method_6_code 9 = .ok (.getfield 20, 3) := by decide +kernel
theorem d_M_tellNothing_12 : decode prog_13_method_6_code 12 = .ok (.bipush 12, 2) := by decide +kernel
theorem d_M_tellNothing_14 : decode prog_13_method_6_code 14 = .ok (.iload_n 1, 1) := by decide +kernel
theorem d_M_tellNothing_15 : decode prog_13_method_6_code 15 = .ok (.imul, 1) := by decide +kernel
theorem d_M_tellNothing_16 : decode prog_13_method_6_code 16 = .ok (.iload_n 2, 1) := by decide +kernel
theorem d_M_tellNothing_17 : decode prog_13_method_6_code 17 = .ok (.iadd, 1) := by decide +kernel
theorem d_M_tellNothing_18 : decode prog_13_method_6_code 18 = .ok (.iload_n 2, 1) := by decide +kernel
theorem d_M_tellNothing_19 : decode prog_13_method_6_code 19 = .ok (.iconst 2, 1) := by decide +kernel
theorem d_M_tellNothing_20 : decode prog_13_method_6_code 20 = .ok (.if_icmp .ge 7, 3) := by decide +kernel
theorem d_M_tellNothing_23 : decode prog_13_method_6_code 23 = .ok (.iconst 0, 1) := by decide +kernel
theorem d_M_tellNothing_24 : decode prog_13_method_6_code 24 = .ok (.goto 34, 3) := by decide +kernel
theorem d_M_tellNothing_27 : decode prog_13_method_6_code 27 = .ok (.iload_n 2, 1) := by decide +kernel
theorem d_M_tellNothing_28 : decode prog_13_method_6_code 28 = .ok (.bipush 6, 2) := by decide +kernel
theorem d_M_tellNothing_30 : decode prog_13_method_6_code 30 = .ok (.if_icmp .ge 7, 3) := by decide +kernel
theorem d_M_tellNothing_33 : decode prog_13_method_6_code 33 = .ok (.iconst 2, 1) := by decide +kernel
theorem d_M_tellNothing_34 : decode prog_13_method_6_code 34 = .ok (.goto 24, 3) := by decide +kernel
theorem d_M_tellNothing_37 : decode prog_13_method_6_code 37 = .ok (.iload_n 2, 1) := by decide +kernel
theorem d_M_tellNothing_38 : decode prog_13_method_6_code 38 = .ok (.bipush 8, 2) := by decide +kernel
theorem d_M_tellNothing_40 : decode prog_13_method_6_code 40 = .ok (.if_icmp .ge 7, 3) := by decide +kernel
theorem d_M_tellNothing_43 : decode prog_13_method_6_code 43 = .ok (.iconst 0, 1) := by decide +kernel
theorem d_M_tellNothing_44 : decode prog_13_method_6_code 44 = .ok (.goto 14, 3) := by decide +kernel
theorem d_M_tellNothing_47 : decode prog_13_method_6_code 47 = .ok (.iload_n 2, 1) := by decide +kernel
theorem d_M_tellNothing_48 : decode prog_13_method_6_code 48 = .ok (.bipush 11, 2) := by decide +kernel
theorem d_M_tellNothing_50 : decode prog_13_method_6_code 50 = .ok (.if_icmp .ge 7, 3) := by decide +kernel
theorem d_M_tellNothing_53 : decode prog_13_method_6_code 53 = .ok (.iconst (-1), 1) := by decide +kernel
theorem d_M_tellNothing_54 : decode prog_13_method_6_code 54 = .ok (.goto 4, 3) := by decide +kernel
theorem d_M_tellNothing_57 : decode prog_13_method_6_code 57 = .ok (.iconst 0, 1) := by decide +kernel
theorem d_M_tellNothing_58 : decode prog_13_method_6_code 58 = .ok (.iastore, 1) := by decide +kernel
theorem d_M_tellNothing_59 : decode prog_13_method_6_code 59 = .ok (.iinc 2 1, 3) := by decide +kernel
theorem d_M_tellNothing_62 : decode prog_13_method_6_code 62 = .ok (.goto (-60), 3) := by decide +kernel
theorem d_M_tellNothing_65 : decode prog_13_method_6_code 65 = .ok (.iconst 0, 1) := by decide +kernel
theorem d_M_tellNothing_66 : decode prog_13_method_6_code 66 = .ok (.istore_n 2, 1) := by decide +kernel
theorem d_M_tellNothing_67 : decode prog_13_method_6_code 67 = .ok (.iload_n 2, 1) := by decide +kernel
theorem d_M_tellNothing_68 : decode prog_13_method_6_code 68 = .ok (.bipush 8, 2) := by decide +kernel
theorem d_M_tellNothing_70 : decode prog_13_method_6_code 70 = .ok (.if_icmp .ge 23, 3) := by decide +kernel
theorem d_M_tellNothing_73 : decode prog_13_method_6_code 73 = .ok (.aload_n 0, 1) := by decide +kernel
theorem d_M_tellNothing_74 : decode prog_13_method_6_code 74 = .ok (.getfield 23, 3) := by decide +kernel
theorem d_M_tellNothing_77 : decode prog_13_method_6_code 77 = .ok (.bipush 8, 2) := by decide +kernel
theorem d_M_tellNothing_79 : decode prog_13_method_6_code 79 = .ok (.iload_n 1, 1) := by decide +kernel
theorem d_M_tellNothing_80 : decode prog_13_method_6_code 80 = .ok (.imul, 1) := by decide +kernel
theorem d_M_tellNothing_81 : decode prog_13_method_6_code 81 = .ok (.iload_n 2, 1) := by decide +kernel
theorem d_M_tellNothing_82 : decode prog_13_method_6_code 82 = .ok (.iadd, 1) := by decide +kernel
theorem d_M_tellNothing_83 : decode prog_13_method_6_code 83 = .ok (.iload_n 2, 1) := by decide +kernel
theorem d_M_tellNothing_84 : decode prog_13_method_6_code 84 = .ok (.iconst 4, 1) := by decide +kernel
theorem d_M_tellNothing_85 : decode prog_13_method_6_code 85 = .ok (.irem, 1) := by decide +kernel
theorem d_M_tellNothing_86 : decode prog_13_method_6_code 86 = .ok (.iastore, 1) := by decide +kernel
theorem d_M_tellNothing_87 : decode prog_13_method_6_code 87 = .ok (.iinc 2 1, 3) := by decide +kernel
theorem d_M_tellNothing_90 : decode prog_13_method_6_code 90 = .ok (.goto (-23), 3) := by decide +kernel
theorem d_M_tellNothing_93 : decode prog_13_method_6_code 93 = .ok (.return_, 1) := by decide +kernel
theorem w_M_tellNothing_J58 {p : Program} {l : Launch} {e : Env} {s : State} {m : MethodId} {args : Array Value} {below : List Frame} {meth : Method} {c : Code} {K : KT} {A : Nat → Prop} {Q : State → Prop} (C0 : Cx p s m args meth c prog_13_method_6_code "CanoeSidesModel" 3 K A) (hr : meth.sig.returnType = (Option.none : Option Jvm.ClassFile.FieldType)) {ad : Nat → Nat} (N : Nat) (x1 : Int32) (x2 : Int32) (y1 : Int32) (y2 : Int32) (h : Hp) {x_ : (Int32 × Hp) ⊕ (Hp)} (hE : K_M_tellNothing_J58 N x1 x2 y1 y2 h = some x_) (hk1 : ∀ z_, x_ = .inl z_ → G p l e rm_M_tellNothing s m args below meth c K A WM 3 0 0 Q 2 [(0, .ref (ad 100)), (1, .int x1), (2, .int z_.1)] [] ad z_.2) (hk3 : ∀ z_, x_ = .inr z_ → G p l e rm_M_tellNothing s m args below meth c K A WM 3 0 0 Q 65 [(0, .ref (ad 100)), (1, .int x1)] [] ad z_) : G p l e rm_M_tellNothing s m args below meth c K A WM 3 0 0 Q 58 [(0, .ref (ad 100)), (1, .int x1), (2, .int x2)] [.int y2, .int y1, .ref (ad 104)] ad h := by
  unfold K_M_tellNothing_J58 at hE
  obtain ⟨q58, hE⟩ := sA_some hE
  obtain ⟨h58, e58, hE⟩ := nm_some hE
  refine g_iast C0 4 rfl nd_M q58 d_M_tellNothing_58 ?_
  refine g_heap e58 ?_
  obtain ⟨v59, e59, hE⟩ := nm_some hE
  refine g_iinc C0 2 [(2, .int v59), (0, .ref (ad 100)), (1, .int x1)] d_M_tellNothing_59 rfl (by rw [e59]; rfl) (by decide) rfl ?_
  refine g_goto C0 (tgt := 2) d_M_tellNothing_62 (by decide) ?_
  refine g_sub [1, 2, 0] (L' := [(0, .ref (ad 100)), (1, .int x1), (2, .int v59)]) rfl ?_
  exact hk1 _ (Option.some.inj hE).symm
theorem w_M_tellNothing_L2 {p : Program} {l : Launch} {e : Env} {s : State} {m : MethodId} {args : Array Value} {below : List Frame} {meth : Method} {c : Code} {K : KT} {A : Nat → Prop} {Q : State → Prop} (C0 : Cx p s m args meth c prog_13_method_6_code "CanoeSidesModel" 3 K A) (hr : meth.sig.returnType = (Option.none : Option Jvm.ClassFile.FieldType)) {ad : Nat → Nat} (N : Nat) (x1 : Int32) (x2 : Int32) (h : Hp) {x_ : (Int32 × Hp) ⊕ (Hp)} (hE : K_M_tellNothing_L2 N x1 x2 h = some x_) (hk1 : ∀ z_, x_ = .inl z_ → G p l e rm_M_tellNothing s m args below meth c K A WM 3 0 0 Q 2 [(0, .ref (ad 100)), (1, .int x1), (2, .int z_.1)] [] ad z_.2) (hk3 : ∀ z_, x_ = .inr z_ → G p l e rm_M_tellNothing s m args below meth c K A WM 3 0 0 Q 65 [(0, .ref (ad 100)), (1, .int x1)] [] ad z_) : G p l e rm_M_tellNothing s m args below meth c K A WM 3 0 0 Q 2 [(0, .ref (ad 100)), (1, .int x1), (2, .int x2)] [] ad h := by
  unfold K_M_tellNothing_L2 at hE
  refine g_iload_n C0 2 d_M_tellNothing_2 rfl rfl ?_
  refine g_bipush C0 (v := 12) d_M_tellNothing_3 (by decide) ?_
  have hB := ite_some hE
  refine g_icmp_ge C0 (tgt := 65) d_M_tellNothing_5 (by decide) (fun c_ => ?_) (fun c_ => ?_)
  · replace hE := hB.1 c_
    refine g_sub [0, 1] (L' := [(0, .ref (ad 100)), (1, .int x1)]) rfl ?_
    exact hk3 _ (Option.some.inj hE).symm
  · replace hE := hB.2 c_
    refine g_aload_n C0 0 d_M_tellNothing_8 rfl rfl ?_
    refine g_getr C0 CK_11 3 (by decide) t_1093 0 rfl rfl d_M_tellNothing_9 ?_
    refine g_bipush C0 (v := 12) d_M_tellNothing_12 (by decide) ?_
    refine g_iload_n C0 1 d_M_tellNothing_14 rfl rfl ?_
    refine g_imul C0 d_M_tellNothing_15 ?_
    refine g_iload_n C0 2 d_M_tellNothing_16 rfl rfl ?_
    refine g_iadd C0 d_M_tellNothing_17 ?_
    refine g_iload_n C0 2 d_M_tellNothing_18 rfl rfl ?_
    refine g_iconst C0 (v := 2) d_M_tellNothing_19 (by decide) ?_
    have hB := ite_some hE
    refine g_icmp_ge C0 (tgt := 27) d_M_tellNothing_20 (by decide) (fun c_ => ?_) (fun c_ => ?_)
    · replace hE := hB.1 c_
      refine g_iload_n C0 2 d_M_tellNothing_27 rfl rfl ?_
      refine g_bipush C0 (v := 6) d_M_tellNothing_28 (by decide) ?_
      have hB := ite_some hE
      refine g_icmp_ge C0 (tgt := 37) d_M_tellNothing_30 (by decide) (fun c_ => ?_) (fun c_ => ?_)
      · replace hE := hB.1 c_
        refine g_iload_n C0 2 d_M_tellNothing_37 rfl rfl ?_
        refine g_bipush C0 (v := 8) d_M_tellNothing_38 (by decide) ?_
        have hB := ite_some hE
        refine g_icmp_ge C0 (tgt := 47) d_M_tellNothing_40 (by decide) (fun c_ => ?_) (fun c_ => ?_)
        · replace hE := hB.1 c_
          refine g_iload_n C0 2 d_M_tellNothing_47 rfl rfl ?_
          refine g_bipush C0 (v := 11) d_M_tellNothing_48 (by decide) ?_
          have hB := ite_some hE
          refine g_icmp_ge C0 (tgt := 57) d_M_tellNothing_50 (by decide) (fun c_ => ?_) (fun c_ => ?_)
          · replace hE := hB.1 c_
            refine g_iconst C0 (v := 0) d_M_tellNothing_57 (by decide) ?_
            exact w_M_tellNothing_J58 C0 hr N x1 x2 ((12 * x1) + x2) 0 h hE hk1 hk3
          · replace hE := hB.2 c_
            refine g_iconst C0 (v := (-1)) d_M_tellNothing_53 (by decide) ?_
            refine g_goto C0 (tgt := 58) d_M_tellNothing_54 (by decide) ?_
            exact w_M_tellNothing_J58 C0 hr N x1 x2 ((12 * x1) + x2) (-1) h hE hk1 hk3
        · replace hE := hB.2 c_
          refine g_iconst C0 (v := 0) d_M_tellNothing_43 (by decide) ?_
          refine g_goto C0 (tgt := 58) d_M_tellNothing_44 (by decide) ?_
          exact w_M_tellNothing_J58 C0 hr N x1 x2 ((12 * x1) + x2) 0 h hE hk1 hk3
      · replace hE := hB.2 c_
        refine g_iconst C0 (v := 2) d_M_tellNothing_33 (by decide) ?_
        refine g_goto C0 (tgt := 58) d_M_tellNothing_34 (by decide) ?_
        exact w_M_tellNothing_J58 C0 hr N x1 x2 ((12 * x1) + x2) 2 h hE hk1 hk3
    · replace hE := hB.2 c_
      refine g_iconst C0 (v := 0) d_M_tellNothing_23 (by decide) ?_
      refine g_goto C0 (tgt := 58) d_M_tellNothing_24 (by decide) ?_
      exact w_M_tellNothing_J58 C0 hr N x1 x2 ((12 * x1) + x2) 0 h hE hk1 hk3
theorem w_M_tellNothing_L67 {p : Program} {l : Launch} {e : Env} {s : State} {m : MethodId} {args : Array Value} {below : List Frame} {meth : Method} {c : Code} {K : KT} {A : Nat → Prop} {Q : State → Prop} (C0 : Cx p s m args meth c prog_13_method_6_code "CanoeSidesModel" 3 K A) (hr : meth.sig.returnType = (Option.none : Option Jvm.ClassFile.FieldType)) {ad : Nat → Nat} (N : Nat) (x1 : Int32) (x2 : Int32) (h : Hp) {x_ : (Int32 × Hp) ⊕ (Hp)} (hE : K_M_tellNothing_L67 N x1 x2 h = some x_) (hk1 : ∀ z_, x_ = .inl z_ → G p l e rm_M_tellNothing s m args below meth c K A WM 3 0 0 Q 67 [(0, .ref (ad 100)), (1, .int x1), (2, .int z_.1)] [] ad z_.2) (hk3 : ∀ z_, x_ = .inr z_ → G p l e rm_M_tellNothing s m args below meth c K A WM 3 0 0 Q 93 [] [] ad z_) : G p l e rm_M_tellNothing s m args below meth c K A WM 3 0 0 Q 67 [(0, .ref (ad 100)), (1, .int x1), (2, .int x2)] [] ad h := by
  unfold K_M_tellNothing_L67 at hE
  refine g_iload_n C0 2 d_M_tellNothing_67 rfl rfl ?_
  refine g_bipush C0 (v := 8) d_M_tellNothing_68 (by decide) ?_
  have hB := ite_some hE
  refine g_icmp_ge C0 (tgt := 93) d_M_tellNothing_70 (by decide) (fun c_ => ?_) (fun c_ => ?_)
  · replace hE := hB.1 c_
    refine g_sub [] (L' := []) rfl ?_
    exact hk3 _ (Option.some.inj hE).symm
  · replace hE := hB.2 c_
    refine g_aload_n C0 0 d_M_tellNothing_73 rfl rfl ?_
    refine g_getr C0 CK_11 4 (by decide) t_1094 0 rfl rfl d_M_tellNothing_74 ?_
    refine g_bipush C0 (v := 8) d_M_tellNothing_77 (by decide) ?_
    refine g_iload_n C0 1 d_M_tellNothing_79 rfl rfl ?_
    refine g_imul C0 d_M_tellNothing_80 ?_
    refine g_iload_n C0 2 d_M_tellNothing_81 rfl rfl ?_
    refine g_iadd C0 d_M_tellNothing_82 ?_
    refine g_iload_n C0 2 d_M_tellNothing_83 rfl rfl ?_
    refine g_iconst C0 (v := 4) d_M_tellNothing_84 (by decide) ?_
    refine g_irem C0 d_M_tellNothing_85 (by decide) ?_
    obtain ⟨q86, hE⟩ := sA_some hE
    obtain ⟨h86, e86, hE⟩ := nm_some hE
    refine g_iast C0 5 rfl nd_M q86 d_M_tellNothing_86 ?_
    refine g_heap e86 ?_
    obtain ⟨v87, e87, hE⟩ := nm_some hE
    refine g_iinc C0 2 [(2, .int v87), (0, .ref (ad 100)), (1, .int x1)] d_M_tellNothing_87 rfl (by rw [e87]; rfl) (by decide) rfl ?_
    refine g_goto C0 (tgt := 67) d_M_tellNothing_90 (by decide) ?_
    refine g_sub [1, 2, 0] (L' := [(0, .ref (ad 100)), (1, .int x1), (2, .int v87)]) rfl ?_
    exact hk1 _ (Option.some.inj hE).symm
theorem w_M_tellNothing {p : Program} {l : Launch} {e : Env} {s : State} {m : MethodId} {args : Array Value} {below : List Frame} {meth : Method} {c : Code} {K : KT} {A : Nat → Prop} (C0 : Cx p s m args meth c prog_13_method_6_code "CanoeSidesModel" 3 K A) (hr : meth.sig.returnType = (Option.none : Option Jvm.ClassFile.FieldType)) {ad : Nat → Nat} (N : Nat) (a0 : Int32) (h : Hp) {res : Hp} (hE : K_M_tellNothing N a0 h = some res) : G p l e rm_M_tellNothing s m args below meth c K A WM 3 0 0 (QV s args below K A WM 0 0 ad res) 0 [(0, .ref (ad 100)), (1, .int a0)] [] ad h := by
  unfold K_M_tellNothing at hE
  refine g_iconst C0 (v := 0) d_M_tellNothing_0 (by decide) ?_
  refine g_istore_n C0 [(2, .int 0), (0, .ref (ad 100)), (1, .int a0)] d_M_tellNothing_1 rfl (by decide) rfl ?_
  refine g_sub [1, 2, 0] (L' := [(0, .ref (ad 100)), (1, .int a0), (2, .int 0)]) rfl ?_
  obtain ⟨t2, z2, hE⟩ := bd_some hE
  refine loopG (fun z_ : Int32 × Hp => K_M_tellNothing_L2 N a0 z_.1 z_.2) (fun z_ : Int32 × Hp => G p l e rm_M_tellNothing s m args below meth c K A WM 3 0 0 _ 2 [(0, .ref (ad 100)), (1, .int a0), (2, .int z_.1)] [] ad z_.2) (fun z_ : Hp => G p l e rm_M_tellNothing s m args below meth c K A WM 3 0 0 _ 65 [(0, .ref (ad 100)), (1, .int a0)] [] ad z_) (fun z_ x_ hz k1 k2 => w_M_tellNothing_L2 C0 hr N a0 z_.1 z_.2 hz k1 k2) _ _ _ z2 ?_
  try dsimp only
  refine g_iconst C0 (v := 0) d_M_tellNothing_65 (by decide) ?_
  refine g_istore_n C0 [(2, .int 0), (0, .ref (ad 100)), (1, .int a0)] d_M_tellNothing_66 rfl (by decide) rfl ?_
  refine g_sub [1, 2, 0] (L' := [(0, .ref (ad 100)), (1, .int a0), (2, .int 0)]) rfl ?_
  obtain ⟨t67, z67, hE⟩ := bd_some hE
  refine loopG (fun z_ : Int32 × Hp => K_M_tellNothing_L67 N a0 z_.1 z_.2) (fun z_ : Int32 × Hp => G p l e rm_M_tellNothing s m args below meth c K A WM 3 0 0 _ 67 [(0, .ref (ad 100)), (1, .int a0), (2, .int z_.1)] [] ad z_.2) (fun z_ : Hp => G p l e rm_M_tellNothing s m args below meth c K A WM 3 0 0 _ 93 [] [] ad z_) (fun z_ x_ hz k1 k2 => w_M_tellNothing_L67 C0 hr N a0 z_.1 z_.2 hz k1 k2) _ _ _ z67 ?_
  try dsimp only
  obtain rfl := Option.some.inj hE
  exact g_vret C0 hr d_M_tellNothing_93
theorem m_M_tellNothing (l : Launch) (K : KT) (ad : Nat → Nat) (h : Hp) (N : Nat) (a0 : Int32) {res : Hp} (hE : K_M_tellNothing N a0 h = some res) : ConV l y_M_tellNothing prog_13_method_6_code 3 (Option.none : Option Jvm.ClassFile.FieldType) rm_M_tellNothing K WM ad h [.ref (ad 100), .int a0] res := fun sz =>
  con_start [(0, .ref (ad 100)), (1, .int a0)] (by decide +kernel) rfl (Nat.le_of_ble_eq_true rfl) (fun p e s m args below meth c C0 hr hnm hsz => w_M_tellNothing C0 hr N a0 h hE)
abbrev y_M_feed : MethodName := ⟨"CanoeSidesModel", "feed", "(I)I"⟩
abbrev rm_M_feed : Room := { frames := 1, cells := 0, slots := 0, locals := 25 }
theorem cd_M_feed : cwd y_M_feed 1 := by decide +kernel
theorem d_M_feed_0 : decode prog_13_method_7_code 0 = .ok (.iload_n 1, 1) := by decide +kernel
theorem d_M_feed_1 : decode prog_13_method_7_code 1 = .ok (.i2l, 1) := by decide +kernel
theorem d_M_feed_2 : decode prog_13_method_7_code 2 = .ok (.lconst 0, 1) := by decide +kernel
theorem d_M_feed_3 : decode prog_13_method_7_code 3 = .ok (.ldc2_w 65, 3) := by decide +kernel
theorem d_M_feed_6 : decode prog_13_method_7_code 6 = .ok (.invokestatic 67, 3) := by decide +kernel
theorem d_M_feed_9 : decode prog_13_method_7_code 9 = .ok (.ifCond .ne 6, 3) := by decide +kernel
theorem d_M_feed_12 : decode prog_13_method_7_code 12 = .ok (.ldc 71, 2) := by decide +kernel
theorem d_M_feed_14 : decode prog_13_method_7_code 14 = .ok (.ireturn, 1) := by decide +kernel
theorem d_M_feed_15 : decode prog_13_method_7_code 15 = .ok (.aload_n 0, 1) := by decide +kernel
theorem d_M_feed_16 : decode prog_13_method_7_code 16 = .ok (.getfield 72, 3) := by decide +kernel
theorem d_M_feed_19 : decode prog_13_method_7_code 19 = .ok (.sipush 250, 3) := by decide +kernel
theorem d_M_feed_22 : decode prog_13_method_7_code 22 = .ok (.if_icmp .ne 6, 3) := by decide +kernel
theorem d_M_feed_25 : decode prog_13_method_7_code 25 = .ok (.ldc 75, 2) := by decide +kernel
theorem d_M_feed_27 : decode prog_13_method_7_code 27 = .ok (.ireturn, 1) := by decide +kernel
theorem d_M_feed_28 : decode prog_13_method_7_code 28 = .ok (.aload_n 0, 1) := by decide +kernel
theorem d_M_feed_29 : decode prog_13_method_7_code 29 = .ok (.getfield 26, 3) := by decide +kernel
theorem d_M_feed_32 : decode prog_13_method_7_code 32 = .ok (.aload_n 0, 1) := by decide +kernel
theorem d_M_feed_33 : decode prog_13_method_7_code 33 = .ok (.getfield 72, 3) := by decide +kernel
theorem d_M_feed_36 : decode prog_13_method_7_code 36 = .ok (.iload_n 1, 1) := by decide +kernel
theorem d_M_feed_37 : decode prog_13_method_7_code 37 = .ok (.iastore, 1) := by decide +kernel
theorem d_M_feed_38 : decode prog_13_method_7_code 38 = .ok (.aload_n 0, 1) := by decide +kernel
theorem d_M_feed_39 : decode prog_13_method_7_code 39 = .ok (.dup, 1) := by decide +kernel
theorem d_M_feed_40 : decode prog_13_method_7_code 40 = .ok (.getfield 72, 3) := by decide +kernel
theorem d_M_feed_43 : decode prog_13_method_7_code 43 = .ok (.iconst 1, 1) := by decide +kernel
theorem d_M_feed_44 : decode prog_13_method_7_code 44 = .ok (.iadd, 1) := by decide +kernel
theorem d_M_feed_45 : decode prog_13_method_7_code 45 = .ok (.putfield 72, 3) := by decide +kernel
theorem d_M_feed_48 : decode prog_13_method_7_code 48 = .ok (.aload_n 0, 1) := by decide +kernel
theorem d_M_feed_49 : decode prog_13_method_7_code 49 = .ok (.getfield 72, 3) := by decide +kernel
theorem d_M_feed_52 : decode prog_13_method_7_code 52 = .ok (.ireturn, 1) := by decide +kernel
theorem w_M_feed {p : Program} {l : Launch} {e : Env} {s : State} {m : MethodId} {args : Array Value} {below : List Frame} {meth : Method} {c : Code} {K : KT} {A : Nat → Prop} (C0 : Cx p s m args meth c prog_13_method_7_code "CanoeSidesModel" 2 K A) (hr : meth.sig.returnType = (Option.some Jvm.ClassFile.FieldType.int)) {ad : Nat → Nat} (a0 : Int32) (h : Hp) {res : Int32 × Hp} (hE : K_M_feed a0 h = some res) : G p l e rm_M_feed s m args below meth c K A WM 2 0 0 (QI s args below K A WM 0 0 ad res.1 res.2) 0 [(0, .ref (ad 100)), (1, .int a0)] [] ad h := by
  unfold K_M_feed at hE
  refine g_iload_n C0 1 d_M_feed_0 rfl rfl ?_
  refine g_i2l C0 d_M_feed_1 ?_
  refine g_lconst C0 (v := 0) d_M_feed_2 (by decide) ?_
  refine g_ldc2 C0 (v := 255) t_1195 d_M_feed_3 ?_
  obtain ⟨v6, z6, hE⟩ := bd_some hE
  refine g_calliP C0 nd_M [] rfl (sb_E_M) (runS C0 (m_M_in l K ad h (Int32.toInt64 a0) 0 255 z6) 3 ⟨t_1196, t_1197, t_97, t_1198⟩ cd_M_in (by decide) (sb_E_M) nd_E rfl rfl (Nat.le_of_ble_eq_true rfl) d_M_feed_6) ?_
  have hB := ite_some hE
  refine g_if_ne C0 (tgt := 15) d_M_feed_9 (by decide) (fun c_ => ?_) (fun c_ => ?_)
  · replace hE := hB.2 c_
    refine g_aload_n C0 0 d_M_feed_15 rfl rfl ?_
    refine g_geti C0 CK_11 7 (by decide) t_1097 0 rfl rfl d_M_feed_16 ?_
    refine g_sipush C0 (v := 250) d_M_feed_19 (by decide) ?_
    have hB := ite_some hE
    refine g_icmp_ne C0 (tgt := 28) d_M_feed_22 (by decide) (fun c_ => ?_) (fun c_ => ?_)
    · replace hE := hB.2 c_
      refine g_aload_n C0 0 d_M_feed_28 rfl rfl ?_
      refine g_getr C0 CK_11 6 (by decide) t_1096 0 rfl rfl d_M_feed_29 ?_
      refine g_aload_n C0 0 d_M_feed_32 rfl rfl ?_
      refine g_geti C0 CK_11 7 (by decide) t_1097 0 rfl rfl d_M_feed_33 ?_
      refine g_iload_n C0 1 d_M_feed_36 rfl rfl ?_
      obtain ⟨q37, hE⟩ := sA_some hE
      obtain ⟨h37, e37, hE⟩ := nm_some hE
      refine g_iast C0 6 rfl nd_M q37 d_M_feed_37 ?_
      refine g_heap e37 ?_
      refine g_aload_n C0 0 d_M_feed_38 rfl rfl ?_
      refine g_dup C0 d_M_feed_39 rfl ?_
      refine g_geti C0 CK_11 7 (by decide) t_1097 0 rfl rfl d_M_feed_40 ?_
      refine g_iconst C0 (v := 1) d_M_feed_43 (by decide) ?_
      refine g_iadd C0 d_M_feed_44 ?_
      obtain ⟨h45, e45, hE⟩ := nm_some hE
      refine g_puti C0 CK_11 CT_11 7 (by decide) t_1097 rfl (by decide +kernel) nd_M 0 rfl rfl d_M_feed_45 ?_
      refine g_heap e45 ?_
      refine g_aload_n C0 0 d_M_feed_48 rfl rfl ?_
      refine g_geti C0 CK_11 7 (by decide) t_1097 0 rfl rfl d_M_feed_49 ?_
      obtain rfl := Option.some.inj hE
      exact g_iret C0 hr d_M_feed_52
    · replace hE := hB.1 c_
      refine g_ldc C0 (v := (-1000000004)) t_1200 d_M_feed_25 ?_
      obtain rfl := Option.some.inj hE
      exact g_iret C0 hr d_M_feed_27
  · replace hE := hB.1 c_
    refine g_ldc C0 (v := (-1000000002)) t_1199 d_M_feed_12 ?_
    obtain rfl := Option.some.inj hE
    exact g_iret C0 hr d_M_feed_14
theorem m_M_feed (l : Launch) (K : KT) (ad : Nat → Nat) (h : Hp) (a0 : Int32) {res : Int32 × Hp} (hE : K_M_feed a0 h = some res) : ConI l y_M_feed prog_13_method_7_code 2 (Option.some Jvm.ClassFile.FieldType.int) rm_M_feed K WM ad h [.ref (ad 100), .int a0] res.1 res.2 := fun sz =>
  con_start [(0, .ref (ad 100)), (1, .int a0)] (by decide +kernel) rfl (Nat.le_of_ble_eq_true rfl) (fun p e s m args below meth c C0 hr hnm hsz => w_M_feed C0 hr a0 h hE)
abbrev y_M_here : MethodName := ⟨"CanoeSidesModel", "here", "()I"⟩
abbrev rm_M_here : Room := { frames := 0, cells := 0, slots := 0, locals := 0 }
theorem cd_M_here : cwd y_M_here 0 := by decide +kernel
theorem d_M_here_0 : decode prog_13_method_8_code 0 = .ok (.aload_n 0, 1) := by decide +kernel
theorem d_M_here_1 : decode prog_13_method_8_code 1 = .ok (.getfield 76, 3) := by decide +kernel
theorem d_M_here_4 : decode prog_13_method_8_code 4 = .ok (.aload_n 0, 1) := by decide +kernel
theorem d_M_here_5 : decode prog_13_method_8_code 5 = .ok (.getfield 72, 3) := by decide +kernel
theorem d_M_here_8 : decode prog_13_method_8_code 8 = .ok (.if_icmp .ge 30, 3) := by decide +kernel
theorem d_M_here_11 : decode prog_13_method_8_code 11 = .ok (.aload_n 0, 1) := by decide +kernel
theorem d_M_here_12 : decode prog_13_method_8_code 12 = .ok (.getfield 26, 3) := by decide +kernel
theorem d_M_here_15 : decode prog_13_method_8_code 15 = .ok (.aload_n 0, 1) := by decide +kernel
theorem d_M_here_16 : decode prog_13_method_8_code 16 = .ok (.getfield 76, 3) := by decide +kernel
theorem d_M_here_19 : decode prog_13_method_8_code 19 = .ok (.iaload, 1) := by decide +kernel
theorem d_M_here_20 : decode prog_13_method_8_code 20 = .ok (.bipush 32, 2) := by decide +kernel
theorem d_M_here_22 : decode prog_13_method_8_code 22 = .ok (.if_icmp .ne 16, 3) := by decide +kernel
theorem d_M_here_25 : decode prog_13_method_8_code 25 = .ok (.aload_n 0, 1) := by decide +kernel
theorem d_M_here_26 : decode prog_13_method_8_code 26 = .ok (.dup, 1) := by decide +kernel
theorem d_M_here_27 : decode prog_13_method_8_code 27 = .ok (.getfield 76, 3) := by decide +kernel
theorem d_M_here_30 : decode prog_13_method_8_code 30 = .ok (.iconst 1, 1) := by decide +kernel
theorem d_M_here_31 : decode prog_13_method_8_code 31 = .ok (.iadd, 1) := by decide +kernel
theorem d_M_here_32 : decode prog_13_method_8_code 32 = .ok (.putfield 76, 3) := by decide +kernel
theorem d_M_here_35 : decode prog_13_method_8_code 35 = .ok (.goto (-35), 3) := by decide +kernel
theorem d_M_here_38 : decode prog_13_method_8_code 38 = .ok (.aload_n 0, 1) := by decide +kernel
theorem d_M_here_39 : decode prog_13_method_8_code 39 = .ok (.getfield 76, 3) := by decide +kernel
theorem d_M_here_42 : decode prog_13_method_8_code 42 = .ok (.aload_n 0, 1) := by decide +kernel
theorem d_M_here_43 : decode prog_13_method_8_code 43 = .ok (.getfield 72, 3) := by decide +kernel
theorem d_M_here_46 : decode prog_13_method_8_code 46 = .ok (.if_icmp .ge 15, 3) := by decide +kernel
theorem d_M_here_49 : decode prog_13_method_8_code 49 = .ok (.aload_n 0, 1) := by decide +kernel
theorem d_M_here_50 : decode prog_13_method_8_code 50 = .ok (.getfield 26, 3) := by decide +kernel
theorem d_M_here_53 : decode prog_13_method_8_code 53 = .ok (.aload_n 0, 1) := by decide +kernel
theorem d_M_here_54 : decode prog_13_method_8_code 54 = .ok (.getfield 76, 3) := by decide +kernel
theorem d_M_here_57 : decode prog_13_method_8_code 57 = .ok (.iaload, 1) := by decide +kernel
theorem d_M_here_58 : decode prog_13_method_8_code 58 = .ok (.goto 4, 3) := by decide +kernel
theorem d_M_here_61 : decode prog_13_method_8_code 61 = .ok (.iconst (-1), 1) := by decide +kernel
theorem d_M_here_62 : decode prog_13_method_8_code 62 = .ok (.ireturn, 1) := by decide +kernel
theorem w_M_here_L0 {p : Program} {l : Launch} {e : Env} {s : State} {m : MethodId} {args : Array Value} {below : List Frame} {meth : Method} {c : Code} {K : KT} {A : Nat → Prop} {Q : State → Prop} (C0 : Cx p s m args meth c prog_13_method_8_code "CanoeSidesModel" 1 K A) (hr : meth.sig.returnType = (Option.some Jvm.ClassFile.FieldType.int)) {ad : Nat → Nat} (N : Nat) (h : Hp) {x_ : (Hp) ⊕ (Hp)} (hE : K_M_here_L0 N h = some x_) (hk1 : ∀ z_, x_ = .inl z_ → G p l e rm_M_here s m args below meth c K A WM 1 0 0 Q 0 [(0, .ref (ad 100))] [] ad z_) (hk3 : ∀ z_, x_ = .inr z_ → G p l e rm_M_here s m args below meth c K A WM 1 0 0 Q 38 [(0, .ref (ad 100))] [] ad z_) : G p l e rm_M_here s m args below meth c K A WM 1 0 0 Q 0 [(0, .ref (ad 100))] [] ad h := by
  unfold K_M_here_L0 at hE
  refine g_aload_n C0 0 d_M_here_0 rfl rfl ?_
  refine g_geti C0 CK_11 8 (by decide) t_1098 0 rfl rfl d_M_here_1 ?_
  refine g_aload_n C0 0 d_M_here_4 rfl rfl ?_
  refine g_geti C0 CK_11 7 (by decide) t_1097 0 rfl rfl d_M_here_5 ?_
  have hB := ite_some hE
  refine g_icmp_ge C0 (tgt := 38) d_M_here_8 (by decide) (fun c_ => ?_) (fun c_ => ?_)
  · replace hE := hB.1 c_
    exact hk3 _ (Option.some.inj hE).symm
  · replace hE := hB.2 c_
    refine g_aload_n C0 0 d_M_here_11 rfl rfl ?_
    refine g_getr C0 CK_11 6 (by decide) t_1096 0 rfl rfl d_M_here_12 ?_
    refine g_aload_n C0 0 d_M_here_15 rfl rfl ?_
    refine g_geti C0 CK_11 8 (by decide) t_1098 0 rfl rfl d_M_here_16 ?_
    obtain ⟨q19, v19, e19, hE⟩ := gA_some hE
    refine g_iald C0 6 rfl q19 d_M_here_19 ?_
    refine g_top e19 ?_
    refine g_bipush C0 (v := 32) d_M_here_20 (by decide) ?_
    have hB := ite_some hE
    refine g_icmp_ne C0 (tgt := 38) d_M_here_22 (by decide) (fun c_ => ?_) (fun c_ => ?_)
    · replace hE := hB.2 c_
      exact hk3 _ (Option.some.inj hE).symm
    · replace hE := hB.1 c_
      refine g_aload_n C0 0 d_M_here_25 rfl rfl ?_
      refine g_dup C0 d_M_here_26 rfl ?_
      refine g_geti C0 CK_11 8 (by decide) t_1098 0 rfl rfl d_M_here_27 ?_
      refine g_iconst C0 (v := 1) d_M_here_30 (by decide) ?_
      refine g_iadd C0 d_M_here_31 ?_
      obtain ⟨h32, e32, hE⟩ := nm_some hE
      refine g_puti C0 CK_11 CT_11 8 (by decide) t_1098 rfl (by decide +kernel) nd_M 0 rfl rfl d_M_here_32 ?_
      refine g_heap e32 ?_
      refine g_goto C0 (tgt := 0) d_M_here_35 (by decide) ?_
      exact hk1 _ (Option.some.inj hE).symm
theorem w_M_here_J38 {p : Program} {l : Launch} {e : Env} {s : State} {m : MethodId} {args : Array Value} {below : List Frame} {meth : Method} {c : Code} {K : KT} {A : Nat → Prop} (C0 : Cx p s m args meth c prog_13_method_8_code "CanoeSidesModel" 1 K A) (hr : meth.sig.returnType = (Option.some Jvm.ClassFile.FieldType.int)) {ad : Nat → Nat} (N : Nat) (h : Hp) {res : Int32 × Hp} (hE : K_M_here_J38 N h = some res) : G p l e rm_M_here s m args below meth c K A WM 1 0 0 (QI s args below K A WM 0 0 ad res.1 res.2) 38 [(0, .ref (ad 100))] [] ad h := by
  unfold K_M_here_J38 at hE
  refine g_aload_n C0 0 d_M_here_38 rfl rfl ?_
  refine g_geti C0 CK_11 8 (by decide) t_1098 0 rfl rfl d_M_here_39 ?_
  refine g_aload_n C0 0 d_M_here_42 rfl rfl ?_
  refine g_geti C0 CK_11 7 (by decide) t_1097 0 rfl rfl d_M_here_43 ?_
  have hB := ite_some hE
  refine g_icmp_ge C0 (tgt := 61) d_M_here_46 (by decide) (fun c_ => ?_) (fun c_ => ?_)
  · replace hE := hB.1 c_
    refine g_iconst C0 (v := (-1)) d_M_here_61 (by decide) ?_
    obtain rfl := Option.some.inj hE
    exact g_iret C0 hr d_M_here_62
  · replace hE := hB.2 c_
    refine g_aload_n C0 0 d_M_here_49 rfl rfl ?_
    refine g_getr C0 CK_11 6 (by decide) t_1096 0 rfl rfl d_M_here_50 ?_
    refine g_aload_n C0 0 d_M_here_53 rfl rfl ?_
    refine g_geti C0 CK_11 8 (by decide) t_1098 0 rfl rfl d_M_here_54 ?_
    obtain ⟨q57, v57, e57, hE⟩ := gA_some hE
    refine g_iald C0 6 rfl q57 d_M_here_57 ?_
    refine g_top e57 ?_
    refine g_goto C0 (tgt := 62) d_M_here_58 (by decide) ?_
    obtain rfl := Option.some.inj hE
    exact g_iret C0 hr d_M_here_62
theorem w_M_here {p : Program} {l : Launch} {e : Env} {s : State} {m : MethodId} {args : Array Value} {below : List Frame} {meth : Method} {c : Code} {K : KT} {A : Nat → Prop} (C0 : Cx p s m args meth c prog_13_method_8_code "CanoeSidesModel" 1 K A) (hr : meth.sig.returnType = (Option.some Jvm.ClassFile.FieldType.int)) {ad : Nat → Nat} (N : Nat) (h : Hp) {res : Int32 × Hp} (hE : K_M_here N h = some res) : G p l e rm_M_here s m args below meth c K A WM 1 0 0 (QI s args below K A WM 0 0 ad res.1 res.2) 0 [(0, .ref (ad 100))] [] ad h := by
  unfold K_M_here at hE
  obtain ⟨t0, z0, hE⟩ := bd_some hE
  refine loopG (fun z_ : Hp => K_M_here_L0 N z_) (fun z_ : Hp => G p l e rm_M_here s m args below meth c K A WM 1 0 0 _ 0 [(0, .ref (ad 100))] [] ad z_) (fun z_ : Hp => G p l e rm_M_here s m args below meth c K A WM 1 0 0 _ 38 [(0, .ref (ad 100))] [] ad z_) (fun z_ x_ hz k1 k2 => w_M_here_L0 C0 hr N z_ hz k1 k2) _ _ _ z0 ?_
  try dsimp only
  exact w_M_here_J38 C0 hr N t0 hE
theorem m_M_here (l : Launch) (K : KT) (ad : Nat → Nat) (h : Hp) (N : Nat) {res : Int32 × Hp} (hE : K_M_here N h = some res) : ConI l y_M_here prog_13_method_8_code 1 (Option.some Jvm.ClassFile.FieldType.int) rm_M_here K WM ad h [.ref (ad 100)] res.1 res.2 := fun sz =>
  con_start [(0, .ref (ad 100))] (by decide +kernel) rfl (Nat.le_of_ble_eq_true rfl) (fun p e s m args below meth c C0 hr hnm hsz => w_M_here C0 hr N h hE)
abbrev y_M_want : MethodName := ⟨"CanoeSidesModel", "want", "(ZII)Z"⟩
abbrev rm_M_want : Room := { frames := 0, cells := 0, slots := 0, locals := 0 }
theorem cd_M_want : cwd y_M_want 3 := by decide +kernel
theorem d_M_want_0 : decode prog_13_method_9_code 0 = .ok (.iload_n 1, 1) := by decide +kernel
theorem d_M_want_1 : decode prog_13_method_9_code 1 = .ok (.ifCond .ne 20, 3) := by decide +kernel
theorem d_M_want_4 : decode prog_13_method_9_code 4 = .ok (.aload_n 0, 1) := by decide +kernel
theorem d_M_want_5 : decode prog_13_method_9_code 5 = .ok (.getfield 79, 3) := by decide +kernel
theorem d_M_want_8 : decode prog_13_method_9_code 8 = .ok (.ifCond .ne 13, 3) := by decide +kernel
theorem d_M_want_11 : decode prog_13_method_9_code 11 = .ok (.aload_n 0, 1) := by decide +kernel
theorem d_M_want_12 : decode prog_13_method_9_code 12 = .ok (.iload_n 2, 1) := by decide +kernel
theorem d_M_want_13 : decode prog_13_method_9_code 13 = .ok (.putfield 79, 3) := by decide +kernel
theorem d_M_want_16 : decode prog_13_method_9_code 16 = .ok (.aload_n 0, 1) := by decide +kernel
theorem d_M_want_17 : decode prog_13_method_9_code 17 = .ok (.iload_n 3, 1) := by decide +kernel
theorem d_M_want_18 : decode prog_13_method_9_code 18 = .ok (.putfield 29, 3) := by decide +kernel
theorem d_M_want_21 : decode prog_13_method_9_code 21 = .ok (.aload_n 0, 1) := by decide +kernel
theorem d_M_want_22 : decode prog_13_method_9_code 22 = .ok (.getfield 79, 3) := by decide +kernel
theorem d_M_want_25 : decode prog_13_method_9_code 25 = .ok (.ifCond .ne 7, 3) := by decide +kernel
theorem d_M_want_28 : decode prog_13_method_9_code 28 = .ok (.iconst 1, 1) := by decide +kernel
theorem d_M_want_29 : decode prog_13_method_9_code 29 = .ok (.goto 4, 3) := by decide +kernel
theorem d_M_want_32 : decode prog_13_method_9_code 32 = .ok (.iconst 0, 1) := by decide +kernel
theorem d_M_want_33 : decode prog_13_method_9_code 33 = .ok (.ireturn, 1) := by decide +kernel
theorem w_M_want_J21 {p : Program} {l : Launch} {e : Env} {s : State} {m : MethodId} {args : Array Value} {below : List Frame} {meth : Method} {c : Code} {K : KT} {A : Nat → Prop} (C0 : Cx p s m args meth c prog_13_method_9_code "CanoeSidesModel" 4 K A) (hr : meth.sig.returnType = (Option.some Jvm.ClassFile.FieldType.boolean)) {ad : Nat → Nat} (h : Hp) {res : Int32 × Hp} (hE : K_M_want_J21 h = some res) : G p l e rm_M_want s m args below meth c K A WM 4 0 0 (QI s args below K A WM 0 0 ad res.1 res.2) 21 [(0, .ref (ad 100))] [] ad h := by
  unfold K_M_want_J21 at hE
  refine g_aload_n C0 0 d_M_want_21 rfl rfl ?_
  refine g_geti C0 CK_11 10 (by decide) t_1100 0 rfl rfl d_M_want_22 ?_
  have hB := ite_some hE
  refine g_if_ne C0 (tgt := 32) d_M_want_25 (by decide) (fun c_ => ?_) (fun c_ => ?_)
  · replace hE := hB.2 c_
    refine g_iconst C0 (v := 0) d_M_want_32 (by decide) ?_
    obtain rfl := Option.some.inj hE
    exact g_zret C0 hr nz0 d_M_want_33
  · replace hE := hB.1 c_
    refine g_iconst C0 (v := 1) d_M_want_28 (by decide) ?_
    refine g_goto C0 (tgt := 33) d_M_want_29 (by decide) ?_
    obtain rfl := Option.some.inj hE
    exact g_zret C0 hr nz1 d_M_want_33
theorem w_M_want {p : Program} {l : Launch} {e : Env} {s : State} {m : MethodId} {args : Array Value} {below : List Frame} {meth : Method} {c : Code} {K : KT} {A : Nat → Prop} (C0 : Cx p s m args meth c prog_13_method_9_code "CanoeSidesModel" 4 K A) (hr : meth.sig.returnType = (Option.some Jvm.ClassFile.FieldType.boolean)) {ad : Nat → Nat} (a0 : Int32) (b0 : Int32) (c0 : Int32) (h : Hp) {res : Int32 × Hp} (hE : K_M_want a0 b0 c0 h = some res) : G p l e rm_M_want s m args below meth c K A WM 4 0 0 (QI s args below K A WM 0 0 ad res.1 res.2) 0 [(0, .ref (ad 100)), (1, .int a0), (2, .int b0), (3, .int c0)] [] ad h := by
  unfold K_M_want at hE
  refine g_iload_n C0 1 d_M_want_0 rfl rfl ?_
  have hB := ite_some hE
  refine g_if_ne C0 (tgt := 21) d_M_want_1 (by decide) (fun c_ => ?_) (fun c_ => ?_)
  · replace hE := hB.2 c_
    refine g_sub [0] (L' := [(0, .ref (ad 100))]) rfl ?_
    exact w_M_want_J21 C0 hr h hE
  · replace hE := hB.1 c_
    refine g_aload_n C0 0 d_M_want_4 rfl rfl ?_
    refine g_geti C0 CK_11 10 (by decide) t_1100 0 rfl rfl d_M_want_5 ?_
    have hB := ite_some hE
    refine g_if_ne C0 (tgt := 21) d_M_want_8 (by decide) (fun c_ => ?_) (fun c_ => ?_)
    · replace hE := hB.2 c_
      refine g_sub [0] (L' := [(0, .ref (ad 100))]) rfl ?_
      exact w_M_want_J21 C0 hr h hE
    · replace hE := hB.1 c_
      refine g_aload_n C0 0 d_M_want_11 rfl rfl ?_
      refine g_iload_n C0 2 d_M_want_12 rfl rfl ?_
      obtain ⟨h13, e13, hE⟩ := nm_some hE
      refine g_puti C0 CK_11 CT_11 10 (by decide) t_1100 rfl (by decide +kernel) nd_M 0 rfl rfl d_M_want_13 ?_
      refine g_heap e13 ?_
      refine g_aload_n C0 0 d_M_want_16 rfl rfl ?_
      refine g_iload_n C0 3 d_M_want_17 rfl rfl ?_
      obtain ⟨h18, e18, hE⟩ := nm_some hE
      refine g_puti C0 CK_11 CT_11 11 (by decide) t_1101 rfl (by decide +kernel) nd_M 0 rfl rfl d_M_want_18 ?_
      refine g_heap e18 ?_
      refine g_sub [0] (L' := [(0, .ref (ad 100))]) rfl ?_
      exact w_M_want_J21 C0 hr h18 hE
theorem m_M_want (l : Launch) (K : KT) (ad : Nat → Nat) (h : Hp) (a0 : Int32) (b0 : Int32) (c0 : Int32) {res : Int32 × Hp} (hE : K_M_want a0 b0 c0 h = some res) : ConI l y_M_want prog_13_method_9_code 4 (Option.some Jvm.ClassFile.FieldType.boolean) rm_M_want K WM ad h [.ref (ad 100), .int a0, .int b0, .int c0] res.1 res.2 := fun sz =>
  con_start [(0, .ref (ad 100)), (1, .int a0), (2, .int b0), (3, .int c0)] (by decide +kernel) rfl (Nat.le_of_ble_eq_true rfl) (fun p e s m args below meth c C0 hr hnm hsz => w_M_want C0 hr a0 b0 c0 h hE)
abbrev y_M_takeNumber : MethodName := ⟨"CanoeSidesModel", "takeNumber", "(II)I"⟩
abbrev rm_M_takeNumber : Room := { frames := 1, cells := 0, slots := 0, locals := 25 }
theorem cd_M_takeNumber : cwd y_M_takeNumber 2 := by decide +kernel
theorem d_M_takeNumber_0 : decode prog_13_method_10_code 0 = .ok (.aload_n 0, 1) := by decide +kernel
theorem d_M_takeNumber_1 : decode prog_13_method_10_code 1 = .ok (.getfield 79, 3) := by decide +kernel
theorem d_M_takeNumber_4 : decode prog_13_method_10_code 4 = .ok (.ifCond .le 5, 3) := by decide +kernel
theorem d_M_takeNumber_7 : decode prog_13_method_10_code 7 = .ok (.iconst 0, 1) := by decide +kernel
theorem d_M_takeNumber_8 : decode prog_13_method_10_code 8 = .ok (.ireturn, 1) := by decide +kernel
theorem d_M_takeNumber_9 : decode prog_13_method_10_code 9 = .ok (.aload_n 0, 1) := by decide +kernel
theorem d_M_takeNumber_10 : decode prog_13_method_10_code 10 = .ok (.invokevirtual 82, 3) := by decide +kernel
theorem d_M_takeNumber_13 : decode prog_13_method_10_code 13 = .ok (.istore_n 3, 1) := by decide +kernel
theorem d_M_takeNumber_14 : decode prog_13_method_10_code 14 = .ok (.aload_n 0, 1) := by decide +kernel
theorem d_M_takeNumber_15 : decode prog_13_method_10_code 15 = .ok (.aload_n 0, 1) := by decide +kernel
theorem d_M_takeNumber_16 : decode prog_13_method_10_code 16 = .ok (.getfield 76, 3) := by decide +kernel
theorem d_M_takeNumber_19 : decode prog_13_method_10_code 19 = .ok (.putfield 86, 3) := by decide +kernel
theorem d_M_takeNumber_22 : decode prog_13_method_10_code 22 = .ok (.aload_n 0, 1) := by decide +kernel
theorem d_M_takeNumber_23 : decode prog_13_method_10_code 23 = .ok (.iload_n 3, 1) := by decide +kernel
theorem d_M_takeNumber_24 : decode prog_13_method_10_code 24 = .ok (.i2l, 1) := by decide +kernel
theorem d_M_takeNumber_25 : decode prog_13_method_10_code 25 = .ok (.ldc2_w 89, 3) := by decide +kernel
theorem d_M_takeNumber_28 : decode prog_13_method_10_code 28 = .ok (.ldc2_w 91, 3) := by decide +kernel
theorem d_M_takeNumber_31 : decode prog_13_method_10_code 31 = .ok (.invokestatic 67, 3) := by decide +kernel
theorem d_M_takeNumber_34 : decode prog_13_method_10_code 34 = .ok (.iconst 1, 1) := by decide +kernel
theorem d_M_takeNumber_35 : decode prog_13_method_10_code 35 = .ok (.aload_n 0, 1) := by decide +kernel
theorem d_M_takeNumber_36 : decode prog_13_method_10_code 36 = .ok (.getfield 76, 3) := by decide +kernel
theorem d_M_takeNumber_39 : decode prog_13_method_10_code 39 = .ok (.invokevirtual 93, 3) := by decide +kernel
theorem d_M_takeNumber_42 : decode prog_13_method_10_code 42 = .ok (.ifCond .ne 5, 3) := by decide +kernel
theorem d_M_takeNumber_45 : decode prog_13_method_10_code 45 = .ok (.iconst 0, 1) := by decide +kernel
theorem d_M_takeNumber_46 : decode prog_13_method_10_code 46 = .ok (.ireturn, 1) := by decide +kernel
theorem d_M_takeNumber_47 : decode prog_13_method_10_code 47 = .ok (.iconst 0, 1) := by decide +kernel
theorem d_M_takeNumber_48 : decode prog_13_method_10_code 48 = .ok (.istore 4, 2) := by decide +kernel
theorem d_M_takeNumber_50 : decode prog_13_method_10_code 50 = .ok (.aload_n 0, 1) := by decide +kernel
theorem d_M_takeNumber_51 : decode prog_13_method_10_code 51 = .ok (.getfield 76, 3) := by decide +kernel
theorem d_M_takeNumber_54 : decode prog_13_method_10_code 54 = .ok (.aload_n 0, 1) := by decide +kernel
theorem d_M_takeNumber_55 : decode prog_13_method_10_code 55 = .ok (.getfield 72, 3) := by decide +kernel
theorem d_M_takeNumber_58 : decode prog_13_method_10_code 58 = .ok (.if_icmp .ge 70, 3) := by decide +kernel
theorem d_M_takeNumber_61 : decode prog_13_method_10_code 61 = .ok (.aload_n 0, 1) := by decide +kernel
theorem d_M_takeNumber_62 : decode prog_13_method_10_code 62 = .ok (.getfield 26, 3) := by decide +kernel
theorem d_M_takeNumber_65 : decode prog_13_method_10_code 65 = .ok (.aload_n 0, 1) := by decide +kernel
theorem d_M_takeNumber_66 : decode prog_13_method_10_code 66 = .ok (.getfield 76, 3) := by decide +kernel
theorem d_M_takeNumber_69 : decode prog_13_method_10_code 69 = .ok (.iaload, 1) := by decide +kernel
theorem d_M_takeNumber_70 : decode prog_13_method_10_code 70 = .ok (.i2l, 1) := by decide +kernel
theorem d_M_takeNumber_71 : decode prog_13_method_10_code 71 = .ok (.ldc2_w 89, 3) := by decide +kernel
theorem d_M_takeNumber_74 : decode prog_13_method_10_code 74 = .ok (.ldc2_w 91, 3) := by decide +kernel
theorem d_M_takeNumber_77 : decode prog_13_method_10_code 77 = .ok (.invokestatic 67, 3) := by decide +kernel
theorem d_M_takeNumber_80 : decode prog_13_method_10_code 80 = .ok (.ifCond .eq 48, 3) := by decide +kernel
theorem d_M_takeNumber_83 : decode prog_13_method_10_code 83 = .ok (.iload 4, 2) := by decide +kernel
theorem d_M_takeNumber_85 : decode prog_13_method_10_code 85 = .ok (.ldc 97, 2) := by decide +kernel
theorem d_M_takeNumber_87 : decode prog_13_method_10_code 87 = .ok (.if_icmp .le 8, 3) := by decide +kernel
theorem d_M_takeNumber_90 : decode prog_13_method_10_code 90 = .ok (.iload 4, 2) := by decide +kernel
theorem d_M_takeNumber_92 : decode prog_13_method_10_code 92 = .ok (.goto 21, 3) := by decide +kernel
theorem d_M_takeNumber_95 : decode prog_13_method_10_code 95 = .ok (.bipush 10, 2) := by decide +kernel
theorem d_M_takeNumber_97 : decode prog_13_method_10_code 97 = .ok (.iload 4, 2) := by decide +kernel
theorem d_M_takeNumber_99 : decode prog_13_method_10_code 99 = .ok (.imul, 1) := by decide +kernel
theorem d_M_takeNumber_100 : decode prog_13_method_10_code 100 = .ok (.aload_n 0, 1) := by decide +kernel
theorem d_M_takeNumber_101 : decode prog_13_method_10_code 101 = .ok (.getfield 26, 3) := by decide +kernel
theorem d_M_takeNumber_104 : decode prog_13_method_10_code 104 = .ok (.aload_n 0, 1) := by decide +kernel
theorem d_M_takeNumber_105 : decode prog_13_method_10_code 105 = .ok (.getfield 76, 3) := by decide +kernel
theorem d_M_takeNumber_108 : decode prog_13_method_10_code 108 = .ok (.iaload, 1) := by decide +kernel
theorem d_M_takeNumber_109 : decode prog_13_method_10_code 109 = .ok (.iadd, 1) := by decide +kernel
theorem d_M_takeNumber_110 : decode prog_13_method_10_code 110 = .ok (.bipush 48, 2) := by decide +kernel
theorem d_M_takeNumber_112 : decode prog_13_method_10_code 112 = .ok (.isub, 1) := by decide +kernel
theorem d_M_takeNumber_113 : decode prog_13_method_10_code 113 = .ok (.istore 4, 2) := by decide +kernel
theorem d_M_takeNumber_115 : decode prog_13_method_10_code 115 = .ok (.aload_n 0, 1) := by decide +kernel
theorem d_M_takeNumber_116 : decode prog_13_method_10_code 116 = .ok (.dup, 1) := by decide +kernel
theorem d_M_takeNumber_117 : decode prog_13_method_10_code 117 = .ok (.getfield 76, 3) := by decide +kernel
theorem d_M_takeNumber_120 : decode prog_13_method_10_code 120 = .ok (.iconst 1, 1) := by decide +kernel
theorem d_M_takeNumber_121 : decode prog_13_method_10_code 121 = .ok (.iadd, 1) := by decide +kernel
theorem d_M_takeNumber_122 : decode prog_13_method_10_code 122 = .ok (.putfield 76, 3) := by decide +kernel
theorem d_M_takeNumber_125 : decode prog_13_method_10_code 125 = .ok (.goto (-75), 3) := by decide +kernel
theorem d_M_takeNumber_128 : decode prog_13_method_10_code 128 = .ok (.aload_n 0, 1) := by decide +kernel
theorem d_M_takeNumber_129 : decode prog_13_method_10_code 129 = .ok (.aload_n 0, 1) := by decide +kernel
theorem d_M_takeNumber_130 : decode prog_13_method_10_code 130 = .ok (.getfield 76, 3) := by decide +kernel
theorem d_M_takeNumber_133 : decode prog_13_method_10_code 133 = .ok (.aload_n 0, 1) := by decide +kernel
theorem d_M_takeNumber_134 : decode prog_13_method_10_code 134 = .ok (.getfield 86, 3) := by decide +kernel
theorem d_M_takeNumber_137 : decode prog_13_method_10_code 137 = .ok (.isub, 1) := by decide +kernel
theorem d_M_takeNumber_138 : decode prog_13_method_10_code 138 = .ok (.iconst 4, 1) := by decide +kernel
theorem d_M_takeNumber_139 : decode prog_13_method_10_code 139 = .ok (.if_icmp .ge 20, 3) := by decide +kernel
theorem d_M_takeNumber_142 : decode prog_13_method_10_code 142 = .ok (.iload 4, 2) := by decide +kernel
theorem d_M_takeNumber_144 : decode prog_13_method_10_code 144 = .ok (.i2l, 1) := by decide +kernel
theorem d_M_takeNumber_145 : decode prog_13_method_10_code 145 = .ok (.iload_n 1, 1) := by decide +kernel
theorem d_M_takeNumber_146 : decode prog_13_method_10_code 146 = .ok (.i2l, 1) := by decide +kernel
theorem d_M_takeNumber_147 : decode prog_13_method_10_code 147 = .ok (.iload_n 2, 1) := by decide +kernel
theorem d_M_takeNumber_148 : decode prog_13_method_10_code 148 = .ok (.i2l, 1) := by decide +kernel
theorem d_M_takeNumber_149 : decode prog_13_method_10_code 149 = .ok (.invokestatic 67, 3) := by decide +kernel
theorem d_M_takeNumber_152 : decode prog_13_method_10_code 152 = .ok (.ifCond .eq 7, 3) := by decide +kernel
theorem d_M_takeNumber_155 : decode prog_13_method_10_code 155 = .ok (.iconst 1, 1) := by decide +kernel
theorem d_M_takeNumber_156 : decode prog_13_method_10_code 156 = .ok (.goto 4, 3) := by decide +kernel
theorem d_M_takeNumber_159 : decode prog_13_method_10_code 159 = .ok (.iconst 0, 1) := by decide +kernel
theorem d_M_takeNumber_160 : decode prog_13_method_10_code 160 = .ok (.iconst 2, 1) := by decide +kernel
theorem d_M_takeNumber_161 : decode prog_13_method_10_code 161 = .ok (.aload_n 0, 1) := by decide +kernel
theorem d_M_takeNumber_162 : decode prog_13_method_10_code 162 = .ok (.getfield 86, 3) := by decide +kernel
theorem d_M_takeNumber_165 : decode prog_13_method_10_code 165 = .ok (.invokevirtual 93, 3) := by decide +kernel
theorem d_M_takeNumber_168 : decode prog_13_method_10_code 168 = .ok (.istore 5, 2) := by decide +kernel
theorem d_M_takeNumber_170 : decode prog_13_method_10_code 170 = .ok (.iload 4, 2) := by decide +kernel
theorem d_M_takeNumber_172 : decode prog_13_method_10_code 172 = .ok (.ireturn, 1) := by decide +kernel
theorem w_M_takeNumber_J113 {p : Program} {l : Launch} {e : Env} {s : State} {m : MethodId} {args : Array Value} {below : List Frame} {meth : Method} {c : Code} {K : KT} {A : Nat → Prop} {Q : State → Prop} (C0 : Cx p s m args meth c prog_13_method_10_code "CanoeSidesModel" 6 K A) (hr : meth.sig.returnType = (Option.some Jvm.ClassFile.FieldType.int)) {ad : Nat → Nat} (N : Nat) (x1 : Int32) (x2 : Int32) (y0 : Int32) (h : Hp) {x_ : (Int32 × Hp) ⊕ (Int32 × Hp)} (hE : K_M_takeNumber_J113 N x1 x2 y0 h = some x_) (hk1 : ∀ z_, x_ = .inl z_ → G p l e rm_M_takeNumber s m args below meth c K A WM 6 0 0 Q 50 [(0, .ref (ad 100)), (1, .int x1), (2, .int x2), (4, .int z_.1)] [] ad z_.2) (hk3 : ∀ z_, x_ = .inr z_ → G p l e rm_M_takeNumber s m args below meth c K A WM 6 0 0 Q 128 [(0, .ref (ad 100)), (1, .int x1), (2, .int x2), (4, .int z_.1)] [] ad z_.2) : G p l e rm_M_takeNumber s m args below meth c K A WM 6 0 0 Q 113 [(0, .ref (ad 100)), (1, .int x1), (2, .int x2)] [.int y0] ad h := by
  unfold K_M_takeNumber_J113 at hE
  refine g_istore C0 [(4, .int y0), (0, .ref (ad 100)), (1, .int x1), (2, .int x2)] d_M_takeNumber_113 (by decide) rfl ?_
  refine g_aload_n C0 1 d_M_takeNumber_115 rfl rfl ?_
  refine g_dup C0 d_M_takeNumber_116 rfl ?_
  refine g_geti C0 CK_11 8 (by decide) t_1098 0 rfl rfl d_M_takeNumber_117 ?_
  refine g_iconst C0 (v := 1) d_M_takeNumber_120 (by decide) ?_
  refine g_iadd C0 d_M_takeNumber_121 ?_
  obtain ⟨h122, e122, hE⟩ := nm_some hE
  refine g_puti C0 CK_11 CT_11 8 (by decide) t_1098 rfl (by decide +kernel) nd_M 0 rfl rfl d_M_takeNumber_122 ?_
  refine g_heap e122 ?_
  refine g_goto C0 (tgt := 50) d_M_takeNumber_125 (by decide) ?_
  refine g_sub [1, 2, 3, 0] (L' := [(0, .ref (ad 100)), (1, .int x1), (2, .int x2), (4, .int y0)]) rfl ?_
  exact hk1 _ (Option.some.inj hE).symm
theorem w_M_takeNumber_L50 {p : Program} {l : Launch} {e : Env} {s : State} {m : MethodId} {args : Array Value} {below : List Frame} {meth : Method} {c : Code} {K : KT} {A : Nat → Prop} {Q : State → Prop} (C0 : Cx p s m args meth c prog_13_method_10_code "CanoeSidesModel" 6 K A) (hr : meth.sig.returnType = (Option.some Jvm.ClassFile.FieldType.int)) {ad : Nat → Nat} (N : Nat) (x1 : Int32) (x2 : Int32) (x4 : Int32) (h : Hp) {x_ : (Int32 × Hp) ⊕ (Int32 × Hp)} (hE : K_M_takeNumber_L50 N x1 x2 x4 h = some x_) (hk1 : ∀ z_, x_ = .inl z_ → G p l e rm_M_takeNumber s m args below meth c K A WM 6 0 0 Q 50 [(0, .ref (ad 100)), (1, .int x1), (2, .int x2), (4, .int z_.1)] [] ad z_.2) (hk3 : ∀ z_, x_ = .inr z_ → G p l e rm_M_takeNumber s m args below meth c K A WM 6 0 0 Q 128 [(0, .ref (ad 100)), (1, .int x1), (2, .int x2), (4, .int z_.1)] [] ad z_.2) : G p l e rm_M_takeNumber s m args below meth c K A WM 6 0 0 Q 50 [(0, .ref (ad 100)), (1, .int x1), (2, .int x2), (4, .int x4)] [] ad h := by
  unfold K_M_takeNumber_L50 at hE
  refine g_aload_n C0 0 d_M_takeNumber_50 rfl rfl ?_
  refine g_geti C0 CK_11 8 (by decide) t_1098 0 rfl rfl d_M_takeNumber_51 ?_
  refine g_aload_n C0 0 d_M_takeNumber_54 rfl rfl ?_
  refine g_geti C0 CK_11 7 (by decide) t_1097 0 rfl rfl d_M_takeNumber_55 ?_
  have hB := ite_some hE
  refine g_icmp_ge C0 (tgt := 128) d_M_takeNumber_58 (by decide) (fun c_ => ?_) (fun c_ => ?_)
  · replace hE := hB.1 c_
    exact hk3 _ (Option.some.inj hE).symm
  · replace hE := hB.2 c_
    refine g_aload_n C0 0 d_M_takeNumber_61 rfl rfl ?_
    refine g_getr C0 CK_11 6 (by decide) t_1096 0 rfl rfl d_M_takeNumber_62 ?_
    refine g_aload_n C0 0 d_M_takeNumber_65 rfl rfl ?_
    refine g_geti C0 CK_11 8 (by decide) t_1098 0 rfl rfl d_M_takeNumber_66 ?_
    obtain ⟨q69, v69, e69, hE⟩ := gA_some hE
    refine g_iald C0 6 rfl q69 d_M_takeNumber_69 ?_
    refine g_top e69 ?_
    refine g_i2l C0 d_M_takeNumber_70 ?_
    refine g_ldc2 C0 (v := 48) t_1231 d_M_takeNumber_71 ?_
    refine g_ldc2 C0 (v := 57) t_1232 d_M_takeNumber_74 ?_
    obtain ⟨v77, z77, hE⟩ := bd_some hE
    refine g_calliP C0 nd_M [] rfl (sb_E_M) (runS C0 (m_M_in l K ad h (Int32.toInt64 v69) 48 57 z77) 3 ⟨t_1196, t_1197, t_97, t_1198⟩ cd_M_in (by decide) (sb_E_M) nd_E rfl rfl (Nat.le_of_ble_eq_true rfl) d_M_takeNumber_77) ?_
    have hB := ite_some hE
    refine g_if_eq C0 (tgt := 128) d_M_takeNumber_80 (by decide) (fun c_ => ?_) (fun c_ => ?_)
    · replace hE := hB.1 c_
      exact hk3 _ (Option.some.inj hE).symm
    · replace hE := hB.2 c_
      refine g_iload C0 3 d_M_takeNumber_83 rfl ?_
      refine g_ldc C0 (v := 99999) t_1233 d_M_takeNumber_85 ?_
      have hB := ite_some hE
      refine g_icmp_le C0 (tgt := 95) d_M_takeNumber_87 (by decide) (fun c_ => ?_) (fun c_ => ?_)
      · replace hE := hB.1 c_
        refine g_bipush C0 (v := 10) d_M_takeNumber_95 (by decide) ?_
        refine g_iload C0 3 d_M_takeNumber_97 rfl ?_
        refine g_imul C0 d_M_takeNumber_99 ?_
        refine g_aload_n C0 0 d_M_takeNumber_100 rfl rfl ?_
        refine g_getr C0 CK_11 6 (by decide) t_1096 0 rfl rfl d_M_takeNumber_101 ?_
        refine g_aload_n C0 0 d_M_takeNumber_104 rfl rfl ?_
        refine g_geti C0 CK_11 8 (by decide) t_1098 0 rfl rfl d_M_takeNumber_105 ?_
        obtain ⟨q108, v108, e108, hE⟩ := gA_some hE
        refine g_iald C0 6 rfl q108 d_M_takeNumber_108 ?_
        refine g_top e108 ?_
        refine g_iadd C0 d_M_takeNumber_109 ?_
        refine g_bipush C0 (v := 48) d_M_takeNumber_110 (by decide) ?_
        refine g_isub C0 d_M_takeNumber_112 ?_
        refine g_sub [0, 1, 2] (L' := [(0, .ref (ad 100)), (1, .int x1), (2, .int x2)]) rfl ?_
        exact w_M_takeNumber_J113 C0 hr N x1 x2 (((10 * x4) + v108) - 48) h hE hk1 hk3
      · replace hE := hB.2 c_
        refine g_iload C0 3 d_M_takeNumber_90 rfl ?_
        refine g_goto C0 (tgt := 113) d_M_takeNumber_92 (by decide) ?_
        refine g_sub [0, 1, 2] (L' := [(0, .ref (ad 100)), (1, .int x1), (2, .int x2)]) rfl ?_
        exact w_M_takeNumber_J113 C0 hr N x1 x2 x4 h hE hk1 hk3
theorem w_M_takeNumber_J160 {p : Program} {l : Launch} {e : Env} {s : State} {m : MethodId} {args : Array Value} {below : List Frame} {meth : Method} {c : Code} {K : KT} {A : Nat → Prop} (C0 : Cx p s m args meth c prog_13_method_10_code "CanoeSidesModel" 6 K A) (hr : meth.sig.returnType = (Option.some Jvm.ClassFile.FieldType.int)) {ad : Nat → Nat} (N : Nat) (x4 : Int32) (y1 : Int32) (h : Hp) {res : Int32 × Hp} (hE : K_M_takeNumber_J160 N x4 y1 h = some res) : G p l e rm_M_takeNumber s m args below meth c K A WM 6 0 0 (QI s args below K A WM 0 0 ad res.1 res.2) 160 [(0, .ref (ad 100)), (4, .int x4)] [.int y1, .ref (ad 100)] ad h := by
  unfold K_M_takeNumber_J160 at hE
  refine g_iconst C0 (v := 2) d_M_takeNumber_160 (by decide) ?_
  refine g_aload_n C0 0 d_M_takeNumber_161 rfl rfl ?_
  refine g_geti C0 CK_11 9 (by decide) t_1099 0 rfl rfl d_M_takeNumber_162 ?_
  obtain ⟨v165, h165, z165, hE⟩ := bd2_some hE
  refine g_calli C0 nd_M [100, 101, 102, 103, 104, 105, 106, 107, 108, 109, 110, 111, 112, 113, 114, 115] rfl (sbW_self WM) (runV C0 (m_M_want l K ad h y1 2 (h 100 9) z165) 3 rfl ⟨t_1216, t_1218, t_44, t_97, t_1219⟩ cd_M_want (by decide) 0 rfl rfl (sbW_self WM) nd_M rfl rfl (Nat.le_of_ble_eq_true rfl) d_M_takeNumber_165) ?_
  refine g_mx [100, 101, 102, 103, 104, 105, 106, 107, 108, 109, 110, 111, 112, 113, 114, 115] rfl ?_
  refine g_istore C0 [(5, .int v165), (0, .ref (ad 100)), (4, .int x4)] d_M_takeNumber_168 (by decide) rfl ?_
  refine g_iload C0 2 d_M_takeNumber_170 rfl ?_
  obtain rfl := Option.some.inj hE
  exact g_iret C0 hr d_M_takeNumber_172
theorem w_M_takeNumber_J159 {p : Program} {l : Launch} {e : Env} {s : State} {m : MethodId} {args : Array Value} {below : List Frame} {meth : Method} {c : Code} {K : KT} {A : Nat → Prop} (C0 : Cx p s m args meth c prog_13_method_10_code "CanoeSidesModel" 6 K A) (hr : meth.sig.returnType = (Option.some Jvm.ClassFile.FieldType.int)) {ad : Nat → Nat} (N : Nat) (x4 : Int32) (h : Hp) {res : Int32 × Hp} (hE : K_M_takeNumber_J159 N x4 h = some res) : G p l e rm_M_takeNumber s m args below meth c K A WM 6 0 0 (QI s args below K A WM 0 0 ad res.1 res.2) 159 [(0, .ref (ad 100)), (4, .int x4)] [.ref (ad 100)] ad h := by
  unfold K_M_takeNumber_J159 at hE
  refine g_iconst C0 (v := 0) d_M_takeNumber_159 (by decide) ?_
  exact w_M_takeNumber_J160 C0 hr N x4 0 h hE
theorem w_M_takeNumber_J128 {p : Program} {l : Launch} {e : Env} {s : State} {m : MethodId} {args : Array Value} {below : List Frame} {meth : Method} {c : Code} {K : KT} {A : Nat → Prop} (C0 : Cx p s m args meth c prog_13_method_10_code "CanoeSidesModel" 6 K A) (hr : meth.sig.returnType = (Option.some Jvm.ClassFile.FieldType.int)) {ad : Nat → Nat} (N : Nat) (x1 : Int32) (x2 : Int32) (x4 : Int32) (h : Hp) {res : Int32 × Hp} (hE : K_M_takeNumber_J128 N x1 x2 x4 h = some res) : G p l e rm_M_takeNumber s m args below meth c K A WM 6 0 0 (QI s args below K A WM 0 0 ad res.1 res.2) 128 [(0, .ref (ad 100)), (1, .int x1), (2, .int x2), (4, .int x4)] [] ad h := by
  unfold K_M_takeNumber_J128 at hE
  refine g_aload_n C0 0 d_M_takeNumber_128 rfl rfl ?_
  refine g_aload_n C0 0 d_M_takeNumber_129 rfl rfl ?_
  refine g_geti C0 CK_11 8 (by decide) t_1098 0 rfl rfl d_M_takeNumber_130 ?_
  refine g_aload_n C0 0 d_M_takeNumber_133 rfl rfl ?_
  refine g_geti C0 CK_11 9 (by decide) t_1099 0 rfl rfl d_M_takeNumber_134 ?_
  refine g_isub C0 d_M_takeNumber_137 ?_
  refine g_iconst C0 (v := 4) d_M_takeNumber_138 (by decide) ?_
  have hB := ite_some hE
  refine g_icmp_ge C0 (tgt := 159) d_M_takeNumber_139 (by decide) (fun c_ => ?_) (fun c_ => ?_)
  · replace hE := hB.1 c_
    refine g_sub [0, 3] (L' := [(0, .ref (ad 100)), (4, .int x4)]) rfl ?_
    exact w_M_takeNumber_J159 C0 hr N x4 h hE
  · replace hE := hB.2 c_
    refine g_iload C0 3 d_M_takeNumber_142 rfl ?_
    refine g_i2l C0 d_M_takeNumber_144 ?_
    refine g_iload_n C0 1 d_M_takeNumber_145 rfl rfl ?_
    refine g_i2l C0 d_M_takeNumber_146 ?_
    refine g_iload_n C0 2 d_M_takeNumber_147 rfl rfl ?_
    refine g_i2l C0 d_M_takeNumber_148 ?_
    obtain ⟨v149, z149, hE⟩ := bd_some hE
    refine g_calliP C0 nd_M [] rfl (sb_E_M) (runS C0 (m_M_in l K ad h (Int32.toInt64 x4) (Int32.toInt64 x1) (Int32.toInt64 x2) z149) 3 ⟨t_1196, t_1197, t_97, t_1198⟩ cd_M_in (by decide) (sb_E_M) nd_E rfl rfl (Nat.le_of_ble_eq_true rfl) d_M_takeNumber_149) ?_
    have hB := ite_some hE
    refine g_if_eq C0 (tgt := 159) d_M_takeNumber_152 (by decide) (fun c_ => ?_) (fun c_ => ?_)
    · replace hE := hB.1 c_
      refine g_sub [0, 3] (L' := [(0, .ref (ad 100)), (4, .int x4)]) rfl ?_
      exact w_M_takeNumber_J159 C0 hr N x4 h hE
    · replace hE := hB.2 c_
      refine g_iconst C0 (v := 1) d_M_takeNumber_155 (by decide) ?_
      refine g_goto C0 (tgt := 160) d_M_takeNumber_156 (by decide) ?_
      refine g_sub [0, 3] (L' := [(0, .ref (ad 100)), (4, .int x4)]) rfl ?_
      exact w_M_takeNumber_J160 C0 hr N x4 1 h hE
theorem w_M_takeNumber {p : Program} {l : Launch} {e : Env} {s : State} {m : MethodId} {args : Array Value} {below : List Frame} {meth : Method} {c : Code} {K : KT} {A : Nat → Prop} (C0 : Cx p s m args meth c prog_13_method_10_code "CanoeSidesModel" 6 K A) (hr : meth.sig.returnType = (Option.some Jvm.ClassFile.FieldType.int)) {ad : Nat → Nat} (N : Nat) (a0 : Int32) (b0 : Int32) (h : Hp) {res : Int32 × Hp} (hE : K_M_takeNumber N a0 b0 h = some res) : G p l e rm_M_takeNumber s m args below meth c K A WM 6 0 0 (QI s args below K A WM 0 0 ad res.1 res.2) 0 [(0, .ref (ad 100)), (1, .int a0), (2, .int b0)] [] ad h := by
  unfold K_M_takeNumber at hE
  refine g_aload_n C0 0 d_M_takeNumber_0 rfl rfl ?_
  refine g_geti C0 CK_11 10 (by decide) t_1100 0 rfl rfl d_M_takeNumber_1 ?_
  have hB := ite_some hE
  refine g_if_le C0 (tgt := 9) d_M_takeNumber_4 (by decide) (fun c_ => ?_) (fun c_ => ?_)
  · replace hE := hB.1 c_
    refine g_aload_n C0 0 d_M_takeNumber_9 rfl rfl ?_
    obtain ⟨v10, h10, z10, hE⟩ := bd2_some hE
    refine g_calli C0 nd_M [100, 101, 102, 103, 104, 105, 106, 107, 108, 109, 110, 111, 112, 113, 114, 115] rfl (sbW_self WM) (runV C0 (m_M_here l K ad h N z10) 0 rfl ⟨t_1205, t_1207, t_42, t_97, t_1208⟩ cd_M_here (by decide) 0 rfl rfl (sbW_self WM) nd_M rfl rfl (Nat.le_of_ble_eq_true rfl) d_M_takeNumber_10) ?_
    refine g_mx [100, 101, 102, 103, 104, 105, 106, 107, 108, 109, 110, 111, 112, 113, 114, 115] rfl ?_
    refine g_istore_n C0 [(3, .int v10), (0, .ref (ad 100)), (1, .int a0), (2, .int b0)] d_M_takeNumber_13 rfl (by decide) rfl ?_
    refine g_aload_n C0 1 d_M_takeNumber_14 rfl rfl ?_
    refine g_aload_n C0 1 d_M_takeNumber_15 rfl rfl ?_
    refine g_geti C0 CK_11 8 (by decide) t_1098 0 rfl rfl d_M_takeNumber_16 ?_
    obtain ⟨h19, e19, hE⟩ := nm_some hE
    refine g_puti C0 CK_11 CT_11 9 (by decide) t_1099 rfl (by decide +kernel) nd_M 0 rfl rfl d_M_takeNumber_19 ?_
    refine g_heap e19 ?_
    refine g_aload_n C0 1 d_M_takeNumber_22 rfl rfl ?_
    refine g_iload_n C0 0 d_M_takeNumber_23 rfl rfl ?_
    refine g_i2l C0 d_M_takeNumber_24 ?_
    refine g_ldc2 C0 (v := 48) t_1231 d_M_takeNumber_25 ?_
    refine g_ldc2 C0 (v := 57) t_1232 d_M_takeNumber_28 ?_
    obtain ⟨v31, z31, hE⟩ := bd_some hE
    refine g_calliP C0 nd_M [] rfl (sb_E_M) (runS C0 (m_M_in l K ad h19 (Int32.toInt64 v10) 48 57 z31) 3 ⟨t_1196, t_1197, t_97, t_1198⟩ cd_M_in (by decide) (sb_E_M) nd_E rfl rfl (Nat.le_of_ble_eq_true rfl) d_M_takeNumber_31) ?_
    refine g_iconst C0 (v := 1) d_M_takeNumber_34 (by decide) ?_
    refine g_aload_n C0 1 d_M_takeNumber_35 rfl rfl ?_
    refine g_geti C0 CK_11 8 (by decide) t_1098 0 rfl rfl d_M_takeNumber_36 ?_
    obtain ⟨v39, h39, z39, hE⟩ := bd2_some hE
    refine g_calli C0 nd_M [100, 101, 102, 103, 104, 105, 106, 107, 108, 109, 110, 111, 112, 113, 114, 115] rfl (sbW_self WM) (runV C0 (m_M_want l K ad h19 v31 1 (h19 100 8) z39) 3 rfl ⟨t_1216, t_1218, t_44, t_97, t_1219⟩ cd_M_want (by decide) 0 rfl rfl (sbW_self WM) nd_M rfl rfl (Nat.le_of_ble_eq_true rfl) d_M_takeNumber_39) ?_
    refine g_mx [100, 101, 102, 103, 104, 105, 106, 107, 108, 109, 110, 111, 112, 113, 114, 115] rfl ?_
    have hB := ite_some hE
    refine g_if_ne C0 (tgt := 47) d_M_takeNumber_42 (by decide) (fun c_ => ?_) (fun c_ => ?_)
    · replace hE := hB.2 c_
      refine g_iconst C0 (v := 0) d_M_takeNumber_47 (by decide) ?_
      refine g_istore C0 [(4, .int 0), (3, .int v10), (0, .ref (ad 100)), (1, .int a0), (2, .int b0)] d_M_takeNumber_48 (by decide) rfl ?_
      refine g_sub [2, 3, 4, 0] (L' := [(0, .ref (ad 100)), (1, .int a0), (2, .int b0), (4, .int 0)]) rfl ?_
      obtain ⟨t50, z50, hE⟩ := bd_some hE
      refine loopG (fun z_ : Int32 × Hp => K_M_takeNumber_L50 N a0 b0 z_.1 z_.2) (fun z_ : Int32 × Hp => G p l e rm_M_takeNumber s m args below meth c K A WM 6 0 0 _ 50 [(0, .ref (ad 100)), (1, .int a0), (2, .int b0), (4, .int z_.1)] [] ad z_.2) (fun z_ : Int32 × Hp => G p l e rm_M_takeNumber s m args below meth c K A WM 6 0 0 _ 128 [(0, .ref (ad 100)), (1, .int a0), (2, .int b0), (4, .int z_.1)] [] ad z_.2) (fun z_ x_ hz k1 k2 => w_M_takeNumber_L50 C0 hr N a0 b0 z_.1 z_.2 hz k1 k2) _ _ _ z50 ?_
      try dsimp only
      exact w_M_takeNumber_J128 C0 hr N a0 b0 t50.1 t50.2 hE
    · replace hE := hB.1 c_
      refine g_iconst C0 (v := 0) d_M_takeNumber_45 (by decide) ?_
      obtain rfl := Option.some.inj hE
      exact g_iret C0 hr d_M_takeNumber_46
  · replace hE := hB.2 c_
    refine g_iconst C0 (v := 0) d_M_takeNumber_7 (by decide) ?_
    obtain rfl := Option.some.inj hE
    exact g_iret C0 hr d_M_takeNumber_8
theorem m_M_takeNumber (l : Launch) (K : KT) (ad : Nat → Nat) (h : Hp) (N : Nat) (a0 : Int32) (b0 : Int32) {res : Int32 × Hp} (hE : K_M_takeNumber N a0 b0 h = some res) : ConI l y_M_takeNumber prog_13_method_10_code 6 (Option.some Jvm.ClassFile.FieldType.int) rm_M_takeNumber K WM ad h [.ref (ad 100), .int a0, .int b0] res.1 res.2 := fun sz =>
  con_start [(0, .ref (ad 100)), (1, .int a0), (2, .int b0)] (by decide +kernel) rfl (Nat.le_of_ble_eq_true rfl) (fun p e s m args below meth c C0 hr hnm hsz => w_M_takeNumber C0 hr N a0 b0 h hE)
abbrev y_M_squareOf : MethodName := ⟨"CanoeSidesModel", "squareOf", "(I)I"⟩
abbrev rm_M_squareOf : Room := { frames := 0, cells := 0, slots := 0, locals := 0 }
theorem cd_M_squareOf : cwd y_M_squareOf 1 := by decide +kernel
theorem d_M_squareOf_0 : decode prog_13_method_11_code 0 = .ok (.iload_n 0, 1) := by decide +kernel
theorem d_M_squareOf_1 : decode prog_13_method_11_code 1 = .ok (.bipush 46, 2) := by decide +kernel
theorem d_M_squareOf_3 : decode prog_13_method_11_code 3 = .ok (.if_icmp .ne 7, 3) := by decide +kernel
theorem d_M_squareOf_6 : decode prog_13_method_11_code 6 = .ok (.iconst 0, 1) := by decide +kernel
theorem d_M_squareOf_7 : decode prog_13_method_11_code 7 = .ok (.goto 65, 3) := by decide +kernel
theorem d_M_squareOf_10 : decode prog_13_method_11_code 10 = .ok (.iload_n 0, 1) := by decide +kernel
theorem d_M_squareOf_11 : decode prog_13_method_11_code 11 = .ok (.bipush 35, 2) := by decide +kernel
theorem d_M_squareOf_13 : decode prog_13_method_11_code 13 = .ok (.if_icmp .ne 7, 3) := by decide +kernel
theorem d_M_squareOf_16 : decode prog_13_method_11_code 16 = .ok (.iconst 1, 1) := by decide +kernel
theorem d_M_squareOf_17 : decode prog_13_method_11_code 17 = .ok (.goto 55, 3) := by decide +kernel
theorem d_M_squareOf_20 : decode prog_13_method_11_code 20 = .ok (.iload_n 0, 1) := by decide +kernel
theorem d_M_squareOf_21 : decode prog_13_method_11_code 21 = .ok (.bipush 111, 2) := by decide +kernel
theorem d_M_squareOf_23 : decode prog_13_method_11_code 23 = .ok (.if_icmp .ne 7, 3) := by decide +kernel
theorem d_M_squareOf_26 : decode prog_13_method_11_code 26 = .ok (.iconst 2, 1) := by decide +kernel
theorem d_M_squareOf_27 : decode prog_13_method_11_code 27 = .ok (.goto 45, 3) := by decide +kernel
theorem d_M_squareOf_30 : decode prog_13_method_11_code 30 = .ok (.iload_n 0, 1) := by decide +kernel
theorem d_M_squareOf_31 : decode prog_13_method_11_code 31 = .ok (.bipush 110, 2) := by decide +kernel
theorem d_M_squareOf_33 : decode prog_13_method_11_code 33 = .ok (.if_icmp .ne 7, 3) := by decide +kernel
theorem d_M_squareOf_36 : decode prog_13_method_11_code 36 = .ok (.iconst 3, 1) := by decide +kernel
theorem d_M_squareOf_37 : decode prog_13_method_11_code 37 = .ok (.goto 35, 3) := by decide +kernel
theorem d_M_squareOf_40 : decode prog_13_method_11_code 40 = .ok (.iload_n 0, 1) := by decide +kernel
theorem d_M_squareOf_41 : decode prog_13_method_11_code 41 = .ok (.bipush 101, 2) := by decide +kernel
theorem d_M_squareOf_43 : decode prog_13_method_11_code 43 = .ok (.if_icmp .ne 7, 3) := by decide +kernel
theorem d_M_squareOf_46 : decode prog_13_method_11_code 46 = .ok (.iconst 4, 1) := by decide +kernel
theorem d_M_squareOf_47 : decode prog_13_method_11_code 47 = .ok (.goto 25, 3) := by decide +kernel
theorem d_M_squareOf_50 : decode prog_13_method_11_code 50 = .ok (.iload_n 0, 1) := by decide +kernel
theorem d_M_squareOf_51 : decode prog_13_method_11_code 51 = .ok (.bipush 115, 2) := by decide +kernel
theorem d_M_squareOf_53 : decode prog_13_method_11_code 53 = .ok (.if_icmp .ne 7, 3) := by decide +kernel
theorem d_M_squareOf_56 : decode prog_13_method_11_code 56 = .ok (.iconst 5, 1) := by decide +kernel
theorem d_M_squareOf_57 : decode prog_13_method_11_code 57 = .ok (.goto 15, 3) := by decide +kernel
theorem d_M_squareOf_60 : decode prog_13_method_11_code 60 = .ok (.iload_n 0, 1) := by decide +kernel
theorem d_M_squareOf_61 : decode prog_13_method_11_code 61 = .ok (.bipush 119, 2) := by decide +kernel
theorem d_M_squareOf_63 : decode prog_13_method_11_code 63 = .ok (.if_icmp .ne 8, 3) := by decide +kernel
theorem d_M_squareOf_66 : decode prog_13_method_11_code 66 = .ok (.bipush 6, 2) := by decide +kernel
theorem d_M_squareOf_68 : decode prog_13_method_11_code 68 = .ok (.goto 4, 3) := by decide +kernel
theorem d_M_squareOf_71 : decode prog_13_method_11_code 71 = .ok (.iconst (-1), 1) := by decide +kernel
theorem d_M_squareOf_72 : decode prog_13_method_11_code 72 = .ok (.ireturn, 1) := by decide +kernel
theorem w_M_squareOf {p : Program} {l : Launch} {e : Env} {s : State} {m : MethodId} {args : Array Value} {below : List Frame} {meth : Method} {c : Code} {K : KT} {A : Nat → Prop} (C0 : Cx p s m args meth c prog_13_method_11_code "CanoeSidesModel" 1 K A) (hr : meth.sig.returnType = (Option.some Jvm.ClassFile.FieldType.int)) {ad : Nat → Nat} (a0 : Int32) (h : Hp) {res : Int32} (hE : K_M_squareOf a0 = some res) : G p l e rm_M_squareOf s m args below meth c K A WE 1 0 0 (QI s args below K A WE 0 0 ad res h) 0 [(0, .int a0)] [] ad h := by
  unfold K_M_squareOf at hE
  refine g_iload_n C0 0 d_M_squareOf_0 rfl rfl ?_
  refine g_bipush C0 (v := 46) d_M_squareOf_1 (by decide) ?_
  have hB := ite_some hE
  refine g_icmp_ne C0 (tgt := 10) d_M_squareOf_3 (by decide) (fun c_ => ?_) (fun c_ => ?_)
  · replace hE := hB.2 c_
    refine g_iload_n C0 0 d_M_squareOf_10 rfl rfl ?_
    refine g_bipush C0 (v := 35) d_M_squareOf_11 (by decide) ?_
    have hB := ite_some hE
    refine g_icmp_ne C0 (tgt := 20) d_M_squareOf_13 (by decide) (fun c_ => ?_) (fun c_ => ?_)
    · replace hE := hB.2 c_
      refine g_iload_n C0 0 d_M_squareOf_20 rfl rfl ?_
      refine g_bipush C0 (v := 111) d_M_squareOf_21 (by decide) ?_
      have hB := ite_some hE
      refine g_icmp_ne C0 (tgt := 30) d_M_squareOf_23 (by decide) (fun c_ => ?_) (fun c_ => ?_)
      · replace hE := hB.2 c_
        refine g_iload_n C0 0 d_M_squareOf_30 rfl rfl ?_
        refine g_bipush C0 (v := 110) d_M_squareOf_31 (by decide) ?_
        have hB := ite_some hE
        refine g_icmp_ne C0 (tgt := 40) d_M_squareOf_33 (by decide) (fun c_ => ?_) (fun c_ => ?_)
        · replace hE := hB.2 c_
          refine g_iload_n C0 0 d_M_squareOf_40 rfl rfl ?_
          refine g_bipush C0 (v := 101) d_M_squareOf_41 (by decide) ?_
          have hB := ite_some hE
          refine g_icmp_ne C0 (tgt := 50) d_M_squareOf_43 (by decide) (fun c_ => ?_) (fun c_ => ?_)
          · replace hE := hB.2 c_
            refine g_iload_n C0 0 d_M_squareOf_50 rfl rfl ?_
            refine g_bipush C0 (v := 115) d_M_squareOf_51 (by decide) ?_
            have hB := ite_some hE
            refine g_icmp_ne C0 (tgt := 60) d_M_squareOf_53 (by decide) (fun c_ => ?_) (fun c_ => ?_)
            · replace hE := hB.2 c_
              refine g_iload_n C0 0 d_M_squareOf_60 rfl rfl ?_
              refine g_bipush C0 (v := 119) d_M_squareOf_61 (by decide) ?_
              have hB := ite_some hE
              refine g_icmp_ne C0 (tgt := 71) d_M_squareOf_63 (by decide) (fun c_ => ?_) (fun c_ => ?_)
              · replace hE := hB.2 c_
                refine g_iconst C0 (v := (-1)) d_M_squareOf_71 (by decide) ?_
                obtain rfl := Option.some.inj hE
                exact g_iret C0 hr d_M_squareOf_72
              · replace hE := hB.1 c_
                refine g_bipush C0 (v := 6) d_M_squareOf_66 (by decide) ?_
                refine g_goto C0 (tgt := 72) d_M_squareOf_68 (by decide) ?_
                obtain rfl := Option.some.inj hE
                exact g_iret C0 hr d_M_squareOf_72
            · replace hE := hB.1 c_
              refine g_iconst C0 (v := 5) d_M_squareOf_56 (by decide) ?_
              refine g_goto C0 (tgt := 72) d_M_squareOf_57 (by decide) ?_
              obtain rfl := Option.some.inj hE
              exact g_iret C0 hr d_M_squareOf_72
          · replace hE := hB.1 c_
            refine g_iconst C0 (v := 4) d_M_squareOf_46 (by decide) ?_
            refine g_goto C0 (tgt := 72) d_M_squareOf_47 (by decide) ?_
            obtain rfl := Option.some.inj hE
            exact g_iret C0 hr d_M_squareOf_72
        · replace hE := hB.1 c_
          refine g_iconst C0 (v := 3) d_M_squareOf_36 (by decide) ?_
          refine g_goto C0 (tgt := 72) d_M_squareOf_37 (by decide) ?_
          obtain rfl := Option.some.inj hE
          exact g_iret C0 hr d_M_squareOf_72
      · replace hE := hB.1 c_
        refine g_iconst C0 (v := 2) d_M_squareOf_26 (by decide) ?_
        refine g_goto C0 (tgt := 72) d_M_squareOf_27 (by decide) ?_
        obtain rfl := Option.some.inj hE
        exact g_iret C0 hr d_M_squareOf_72
    · replace hE := hB.1 c_
      refine g_iconst C0 (v := 1) d_M_squareOf_16 (by decide) ?_
      refine g_goto C0 (tgt := 72) d_M_squareOf_17 (by decide) ?_
      obtain rfl := Option.some.inj hE
      exact g_iret C0 hr d_M_squareOf_72
  · replace hE := hB.1 c_
    refine g_iconst C0 (v := 0) d_M_squareOf_6 (by decide) ?_
    refine g_goto C0 (tgt := 72) d_M_squareOf_7 (by decide) ?_
    obtain rfl := Option.some.inj hE
    exact g_iret C0 hr d_M_squareOf_72
theorem m_M_squareOf (l : Launch) (K : KT) (ad : Nat → Nat) (h : Hp) (a0 : Int32) {res : Int32} (hE : K_M_squareOf a0 = some res) : ConI l y_M_squareOf prog_13_method_11_code 1 (Option.some Jvm.ClassFile.FieldType.int) rm_M_squareOf K WE ad h [.int a0] res h := fun sz =>
  con_start [(0, .int a0)] (by decide +kernel) rfl (Nat.le_of_ble_eq_true rfl) (fun p e s m args below meth c C0 hr hnm hsz => w_M_squareOf C0 hr a0 h hE)
abbrev y_M_strokeOf : MethodName := ⟨"CanoeSidesModel", "strokeOf", "(I)I"⟩
abbrev rm_M_strokeOf : Room := { frames := 0, cells := 0, slots := 0, locals := 0 }
theorem cd_M_strokeOf : cwd y_M_strokeOf 1 := by decide +kernel
theorem d_M_strokeOf_0 : decode prog_13_method_12_code 0 = .ok (.iload_n 0, 1) := by decide +kernel
theorem d_M_strokeOf_1 : decode prog_13_method_12_code 1 = .ok (.bipush 108, 2) := by decide +kernel
theorem d_M_strokeOf_3 : decode prog_13_method_12_code 3 = .ok (.if_icmp .ne 7, 3) := by decide +kernel
theorem d_M_strokeOf_6 : decode prog_13_method_12_code 6 = .ok (.iconst 0, 1) := by decide +kernel
theorem d_M_strokeOf_7 : decode prog_13_method_12_code 7 = .ok (.goto 34, 3) := by decide +kernel
theorem d_M_strokeOf_10 : decode prog_13_method_12_code 10 = .ok (.iload_n 0, 1) := by decide +kernel
theorem d_M_strokeOf_11 : decode prog_13_method_12_code 11 = .ok (.bipush 114, 2) := by decide +kernel
theorem d_M_strokeOf_13 : decode prog_13_method_12_code 13 = .ok (.if_icmp .ne 7, 3) := by decide +kernel
theorem d_M_strokeOf_16 : decode prog_13_method_12_code 16 = .ok (.iconst 1, 1) := by decide +kernel
theorem d_M_strokeOf_17 : decode prog_13_method_12_code 17 = .ok (.goto 24, 3) := by decide +kernel
theorem d_M_strokeOf_20 : decode prog_13_method_12_code 20 = .ok (.iload_n 0, 1) := by decide +kernel
theorem d_M_strokeOf_21 : decode prog_13_method_12_code 21 = .ok (.bipush 98, 2) := by decide +kernel
theorem d_M_strokeOf_23 : decode prog_13_method_12_code 23 = .ok (.if_icmp .ne 7, 3) := by decide +kernel
theorem d_M_strokeOf_26 : decode prog_13_method_12_code 26 = .ok (.iconst 2, 1) := by decide +kernel
theorem d_M_strokeOf_27 : decode prog_13_method_12_code 27 = .ok (.goto 14, 3) := by decide +kernel
theorem d_M_strokeOf_30 : decode prog_13_method_12_code 30 = .ok (.iload_n 0, 1) := by decide +kernel
theorem d_M_strokeOf_31 : decode prog_13_method_12_code 31 = .ok (.bipush 104, 2) := by decide +kernel
theorem d_M_strokeOf_33 : decode prog_13_method_12_code 33 = .ok (.if_icmp .ne 7, 3) := by decide +kernel
theorem d_M_strokeOf_36 : decode prog_13_method_12_code 36 = .ok (.iconst 3, 1) := by decide +kernel
theorem d_M_strokeOf_37 : decode prog_13_method_12_code 37 = .ok (.goto 4, 3) := by decide +kernel
theorem d_M_strokeOf_40 : decode prog_13_method_12_code 40 = .ok (.iconst (-1), 1) := by decide +kernel
theorem d_M_strokeOf_41 : decode prog_13_method_12_code 41 = .ok (.ireturn, 1) := by decide +kernel
theorem w_M_strokeOf {p : Program} {l : Launch} {e : Env} {s : State} {m : MethodId} {args : Array Value} {below : List Frame} {meth : Method} {c : Code} {K : KT} {A : Nat → Prop} (C0 : Cx p s m args meth c prog_13_method_12_code "CanoeSidesModel" 1 K A) (hr : meth.sig.returnType = (Option.some Jvm.ClassFile.FieldType.int)) {ad : Nat → Nat} (a0 : Int32) (h : Hp) {res : Int32} (hE : K_M_strokeOf a0 = some res) : G p l e rm_M_strokeOf s m args below meth c K A WE 1 0 0 (QI s args below K A WE 0 0 ad res h) 0 [(0, .int a0)] [] ad h := by
  unfold K_M_strokeOf at hE
  refine g_iload_n C0 0 d_M_strokeOf_0 rfl rfl ?_
  refine g_bipush C0 (v := 108) d_M_strokeOf_1 (by decide) ?_
  have hB := ite_some hE
  refine g_icmp_ne C0 (tgt := 10) d_M_strokeOf_3 (by decide) (fun c_ => ?_) (fun c_ => ?_)
  · replace hE := hB.2 c_
    refine g_iload_n C0 0 d_M_strokeOf_10 rfl rfl ?_
    refine g_bipush C0 (v := 114) d_M_strokeOf_11 (by decide) ?_
    have hB := ite_some hE
    refine g_icmp_ne C0 (tgt := 20) d_M_strokeOf_13 (by decide) (fun c_ => ?_) (fun c_ => ?_)
    · replace hE := hB.2 c_
      refine g_iload_n C0 0 d_M_strokeOf_20 rfl rfl ?_
      refine g_bipush C0 (v := 98) d_M_strokeOf_21 (by decide) ?_
      have hB := ite_some hE
      refine g_icmp_ne C0 (tgt := 30) d_M_strokeOf_23 (by decide) (fun c_ => ?_) (fun c_ => ?_)
      · replace hE := hB.2 c_
        refine g_iload_n C0 0 d_M_strokeOf_30 rfl rfl ?_
        refine g_bipush C0 (v := 104) d_M_strokeOf_31 (by decide) ?_
        have hB := ite_some hE
        refine g_icmp_ne C0 (tgt := 40) d_M_strokeOf_33 (by decide) (fun c_ => ?_) (fun c_ => ?_)
        · replace hE := hB.2 c_
          refine g_iconst C0 (v := (-1)) d_M_strokeOf_40 (by decide) ?_
          obtain rfl := Option.some.inj hE
          exact g_iret C0 hr d_M_strokeOf_41
        · replace hE := hB.1 c_
          refine g_iconst C0 (v := 3) d_M_strokeOf_36 (by decide) ?_
          refine g_goto C0 (tgt := 41) d_M_strokeOf_37 (by decide) ?_
          obtain rfl := Option.some.inj hE
          exact g_iret C0 hr d_M_strokeOf_41
      · replace hE := hB.1 c_
        refine g_iconst C0 (v := 2) d_M_strokeOf_26 (by decide) ?_
        refine g_goto C0 (tgt := 41) d_M_strokeOf_27 (by decide) ?_
        obtain rfl := Option.some.inj hE
        exact g_iret C0 hr d_M_strokeOf_41
    · replace hE := hB.1 c_
      refine g_iconst C0 (v := 1) d_M_strokeOf_16 (by decide) ?_
      refine g_goto C0 (tgt := 41) d_M_strokeOf_17 (by decide) ?_
      obtain rfl := Option.some.inj hE
      exact g_iret C0 hr d_M_strokeOf_41
  · replace hE := hB.1 c_
    refine g_iconst C0 (v := 0) d_M_strokeOf_6 (by decide) ?_
    refine g_goto C0 (tgt := 41) d_M_strokeOf_7 (by decide) ?_
    obtain rfl := Option.some.inj hE
    exact g_iret C0 hr d_M_strokeOf_41
theorem m_M_strokeOf (l : Launch) (K : KT) (ad : Nat → Nat) (h : Hp) (a0 : Int32) {res : Int32} (hE : K_M_strokeOf a0 = some res) : ConI l y_M_strokeOf prog_13_method_12_code 1 (Option.some Jvm.ClassFile.FieldType.int) rm_M_strokeOf K WE ad h [.int a0] res h := fun sz =>
  con_start [(0, .int a0)] (by decide +kernel) rfl (Nat.le_of_ble_eq_true rfl) (fun p e s m args below meth c C0 hr hnm hsz => w_M_strokeOf C0 hr a0 h hE)
abbrev y_M_takeRiver : MethodName := ⟨"CanoeSidesModel", "takeRiver", "()V"⟩
abbrev rm_M_takeRiver : Room := { frames := 2, cells := 0, slots := 0, locals := 50 }
theorem cd_M_takeRiver : cwd y_M_takeRiver 0 := by decide +kernel
theorem d_M_takeRiver_0 : decode prog_13_method_13_code 0 = .ok (.aload_n 0, 1) := by decide +kernel
theorem d_M_takeRiver_1 : decode prog_13_method_13_code 1 = .ok (.iconst 1, 1) := by decide +kernel
theorem d_M_takeRiver_2 : decode prog_13_method_13_code 2 = .ok (.bipush 8, 2) := by decide +kernel
theorem d_M_takeRiver_4 : decode prog_13_method_13_code 4 = .ok (.invokevirtual 98, 3) := by decide +kernel
theorem d_M_takeRiver_7 : decode prog_13_method_13_code 7 = .ok (.istore_n 1, 1) := by decide +kernel
theorem d_M_takeRiver_8 : decode prog_13_method_13_code 8 = .ok (.aload_n 0, 1) := by decide +kernel
theorem d_M_takeRiver_9 : decode prog_13_method_13_code 9 = .ok (.iconst 1, 1) := by decide +kernel
theorem d_M_takeRiver_10 : decode prog_13_method_13_code 10 = .ok (.bipush 6, 2) := by decide +kernel
theorem d_M_takeRiver_12 : decode prog_13_method_13_code 12 = .ok (.invokevirtual 98, 3) := by decide +kernel
theorem d_M_takeRiver_15 : decode prog_13_method_13_code 15 = .ok (.istore_n 2, 1) := by decide +kernel
theorem d_M_takeRiver_16 : decode prog_13_method_13_code 16 = .ok (.iconst 0, 1) := by decide +kernel
theorem d_M_takeRiver_17 : decode prog_13_method_13_code 17 = .ok (.istore_n 3, 1) := by decide +kernel
theorem d_M_takeRiver_18 : decode prog_13_method_13_code 18 = .ok (.iconst 0, 1) := by decide +kernel
theorem d_M_takeRiver_19 : decode prog_13_method_13_code 19 = .ok (.istore 4, 2) := by decide +kernel
theorem d_M_takeRiver_21 : decode prog_13_method_13_code 21 = .ok (.iconst 0, 1) := by decide +kernel
theorem d_M_takeRiver_22 : decode prog_13_method_13_code 22 = .ok (.istore 5, 2) := by decide +kernel
theorem d_M_takeRiver_24 : decode prog_13_method_13_code 24 = .ok (.iload 5, 2) := by decide +kernel
theorem d_M_takeRiver_26 : decode prog_13_method_13_code 26 = .ok (.iload_n 1, 1) := by decide +kernel
theorem d_M_takeRiver_27 : decode prog_13_method_13_code 27 = .ok (.iload_n 2, 1) := by decide +kernel
theorem d_M_takeRiver_28 : decode prog_13_method_13_code 28 = .ok (.imul, 1) := by decide +kernel
theorem d_M_takeRiver_29 : decode prog_13_method_13_code 29 = .ok (.if_icmp .ge 91, 3) := by decide +kernel
theorem d_M_takeRiver_32 : decode prog_13_method_13_code 32 = .ok (.aload_n 0, 1) := by decide +kernel
theorem d_M_takeRiver_33 : decode prog_13_method_13_code 33 = .ok (.getfield 79, 3) := by decide +kernel
theorem d_M_takeRiver_36 : decode prog_13_method_13_code 36 = .ok (.ifCond .ne 84, 3) := by decide +kernel
theorem d_M_takeRiver_39 : decode prog_13_method_13_code 39 = .ok (.aload_n 0, 1) := by decide +kernel
theorem d_M_takeRiver_40 : decode prog_13_method_13_code 40 = .ok (.invokevirtual 82, 3) := by decide +kernel
theorem d_M_takeRiver_43 : decode prog_13_method_13_code 43 = .ok (.invokestatic 102, 3) := by decide +kernel
theorem d_M_takeRiver_46 : decode prog_13_method_13_code 46 = .ok (.istore 6, 2) := by decide +kernel
theorem d_M_takeRiver_48 : decode prog_13_method_13_code 48 = .ok (.aload_n 0, 1) := by decide +kernel
theorem d_M_takeRiver_49 : decode prog_13_method_13_code 49 = .ok (.iload 6, 2) := by decide +kernel
theorem d_M_takeRiver_51 : decode prog_13_method_13_code 51 = .ok (.ifCond .lt 7, 3) := by decide +kernel
theorem d_M_takeRiver_54 : decode prog_13_method_13_code 54 = .ok (.iconst 1, 1) := by decide +kernel
theorem d_M_takeRiver_55 : decode prog_13_method_13_code 55 = .ok (.goto 4, 3) := by decide +kernel
theorem d_M_takeRiver_58 : decode prog_13_method_13_code 58 = .ok (.iconst 0, 1) := by decide +kernel
theorem d_M_takeRiver_59 : decode prog_13_method_13_code 59 = .ok (.iconst 1, 1) := by decide +kernel
theorem d_M_takeRiver_60 : decode prog_13_method_13_code 60 = .ok (.aload_n 0, 1) := by decide +kernel
theorem d_M_takeRiver_61 : decode prog_13_method_13_code 61 = .ok (.getfield 76, 3) := by decide +kernel
theorem d_M_takeRiver_64 : decode prog_13_method_13_code 64 = .ok (.invokevirtual 93, 3) := by decide +kernel
theorem d_M_takeRiver_67 : decode prog_13_method_13_code 67 = .ok (.ifCond .eq 47, 3) := by decide +kernel
theorem d_M_takeRiver_70 : decode prog_13_method_13_code 70 = .ok (.aload_n 0, 1) := by decide +kernel
theorem d_M_takeRiver_71 : decode prog_13_method_13_code 71 = .ok (.getfield 17, 3) := by decide +kernel
theorem d_M_takeRiver_74 : decode prog_13_method_13_code 74 = .ok (.bipush 48, 2) := by decide +kernel
theorem d_M_takeRiver_76 : decode prog_13_method_13_code 76 = .ok (.iload 5, 2) := by decide +kernel
theorem d_M_takeRiver_78 : decode prog_13_method_13_code 78 = .ok (.iadd, 1) := by decide +kernel
theorem d_M_takeRiver_79 : decode prog_13_method_13_code 79 = .ok (.iload 6, 2) := by decide +kernel
theorem d_M_takeRiver_81 : decode prog_13_method_13_code 81 = .ok (.iastore, 1) := by decide +kernel
theorem d_M_takeRiver_82 : decode prog_13_method_13_code 82 = .ok (.iload_n 3, 1) := by decide +kernel
theorem d_M_takeRiver_83 : decode prog_13_method_13_code 83 = .ok (.ifCond .ne 9, 3) := by decide +kernel
theorem d_M_takeRiver_86 : decode prog_13_method_13_code 86 = .ok (.iload 6, 2) := by decide +kernel
theorem d_M_takeRiver_88 : decode prog_13_method_13_code 88 = .ok (.iconst 1, 1) := by decide +kernel
theorem d_M_takeRiver_89 : decode prog_13_method_13_code 89 = .ok (.if_icmp .eq 7, 3) := by decide +kernel
theorem d_M_takeRiver_92 : decode prog_13_method_13_code 92 = .ok (.iconst 1, 1) := by decide +kernel
theorem d_M_takeRiver_93 : decode prog_13_method_13_code 93 = .ok (.goto 4, 3) := by decide +kernel
theorem d_M_takeRiver_96 : decode prog_13_method_13_code 96 = .ok (.iconst 0, 1) := by decide +kernel
theorem d_M_takeRiver_97 : decode prog_13_method_13_code 97 = .ok (.istore_n 3, 1) := by decide +kernel
theorem d_M_takeRiver_98 : decode prog_13_method_13_code 98 = .ok (.aload_n 0, 1) := by decide +kernel
theorem d_M_takeRiver_99 : decode prog_13_method_13_code 99 = .ok (.getfield 76, 3) := by decide +kernel
theorem d_M_takeRiver_102 : decode prog_13_method_13_code 102 = .ok (.istore 4, 2) := by decide +kernel
theorem d_M_takeRiver_104 : decode prog_13_method_13_code 104 = .ok (.aload_n 0, 1) := by decide +kernel
theorem d_M_takeRiver_105 : decode prog_13_method_13_code 105 = .ok (.dup, 1) := by decide +kernel
theorem d_M_takeRiver_106 : decode prog_13_method_13_code 106 = .ok (.getfield 76, 3) := by decide +kernel
theorem d_M_takeRiver_109 : decode prog_13_method_13_code 109 = .ok (.iconst 1, 1) := by decide +kernel
theorem d_M_takeRiver_110 : decode prog_13_method_13_code 110 = .ok (.iadd, 1) := by decide +kernel
theorem d_M_takeRiver_111 : decode prog_13_method_13_code 111 = .ok (.putfield 76, 3) := by decide +kernel
theorem d_M_takeRiver_114 : decode prog_13_method_13_code 114 = .ok (.iinc 5 1, 3) := by decide +kernel
theorem d_M_takeRiver_117 : decode prog_13_method_13_code 117 = .ok (.goto (-93), 3) := by decide +kernel
theorem d_M_takeRiver_120 : decode prog_13_method_13_code 120 = .ok (.aload_n 0, 1) := by decide +kernel
theorem d_M_takeRiver_121 : decode prog_13_method_13_code 121 = .ok (.iload_n 3, 1) := by decide +kernel
theorem d_M_takeRiver_122 : decode prog_13_method_13_code 122 = .ok (.iconst 4, 1) := by decide +kernel
theorem d_M_takeRiver_123 : decode prog_13_method_13_code 123 = .ok (.iload 4, 2) := by decide +kernel
theorem d_M_takeRiver_125 : decode prog_13_method_13_code 125 = .ok (.invokevirtual 93, 3) := by decide +kernel
theorem d_M_takeRiver_128 : decode prog_13_method_13_code 128 = .ok (.istore 5, 2) := by decide +kernel
theorem d_M_takeRiver_130 : decode prog_13_method_13_code 130 = .ok (.aload_n 0, 1) := by decide +kernel
theorem d_M_takeRiver_131 : decode prog_13_method_13_code 131 = .ok (.getfield 20, 3) := by decide +kernel
theorem d_M_takeRiver_134 : decode prog_13_method_13_code 134 = .ok (.bipush 12, 2) := by decide +kernel
theorem d_M_takeRiver_136 : decode prog_13_method_13_code 136 = .ok (.iload_n 1, 1) := by decide +kernel
theorem d_M_takeRiver_137 : decode prog_13_method_13_code 137 = .ok (.iastore, 1) := by decide +kernel
theorem d_M_takeRiver_138 : decode prog_13_method_13_code 138 = .ok (.aload_n 0, 1) := by decide +kernel
theorem d_M_takeRiver_139 : decode prog_13_method_13_code 139 = .ok (.getfield 20, 3) := by decide +kernel
theorem d_M_takeRiver_142 : decode prog_13_method_13_code 142 = .ok (.bipush 13, 2) := by decide +kernel
theorem d_M_takeRiver_144 : decode prog_13_method_13_code 144 = .ok (.iload_n 2, 1) := by decide +kernel
theorem d_M_takeRiver_145 : decode prog_13_method_13_code 145 = .ok (.iastore, 1) := by decide +kernel
theorem d_M_takeRiver_146 : decode prog_13_method_13_code 146 = .ok (.return_, 1) := by decide +kernel
theorem w_M_takeRiver_J97 {p : Program} {l : Launch} {e : Env} {s : State} {m : MethodId} {args : Array Value} {below : List Frame} {meth : Method} {c : Code} {K : KT} {A : Nat → Prop} {Q : State → Prop} (C0 : Cx p s m args meth c prog_13_method_13_code "CanoeSidesModel" 7 K A) (hr : meth.sig.returnType = (Option.none : Option Jvm.ClassFile.FieldType)) {ad : Nat → Nat} (N : Nat) (x1 : Int32) (x2 : Int32) (x5 : Int32) (y0 : Int32) (h : Hp) {x_ : (Int32 × Int32 × Int32 × Hp) ⊕ (Int32 × Int32 × Hp)} (hE : K_M_takeRiver_J97 N x1 x2 x5 y0 h = some x_) (hk1 : ∀ z_, x_ = .inl z_ → G p l e rm_M_takeRiver s m args below meth c K A WM 7 0 0 Q 24 [(0, .ref (ad 100)), (1, .int x1), (2, .int x2), (3, .int z_.1), (4, .int z_.2.1), (5, .int z_.2.2.1)] [] ad z_.2.2.2) (hk3 : ∀ z_, x_ = .inr z_ → G p l e rm_M_takeRiver s m args below meth c K A WM 7 0 0 Q 120 [(0, .ref (ad 100)), (1, .int x1), (2, .int x2), (3, .int z_.1), (4, .int z_.2.1)] [] ad z_.2.2) : G p l e rm_M_takeRiver s m args below meth c K A WM 7 0 0 Q 97 [(0, .ref (ad 100)), (1, .int x1), (2, .int x2), (5, .int x5)] [.int y0] ad h := by
  unfold K_M_takeRiver_J97 at hE
  refine g_istore_n C0 [(3, .int y0), (0, .ref (ad 100)), (1, .int x1), (2, .int x2), (5, .int x5)] d_M_takeRiver_97 rfl (by decide) rfl ?_
  refine g_aload_n C0 1 d_M_takeRiver_98 rfl rfl ?_
  refine g_geti C0 CK_11 8 (by decide) t_1098 0 rfl rfl d_M_takeRiver_99 ?_
  obtain ⟨v102, e102, hE⟩ := nm_some hE
  refine g_top e102 ?_
  refine g_istore C0 [(4, .int v102), (3, .int y0), (0, .ref (ad 100)), (1, .int x1), (2, .int x2), (5, .int x5)] d_M_takeRiver_102 (by decide) rfl ?_
  refine g_aload_n C0 2 d_M_takeRiver_104 rfl rfl ?_
  refine g_dup C0 d_M_takeRiver_105 rfl ?_
  refine g_geti C0 CK_11 8 (by decide) t_1098 0 rfl rfl d_M_takeRiver_106 ?_
  refine g_iconst C0 (v := 1) d_M_takeRiver_109 (by decide) ?_
  refine g_iadd C0 d_M_takeRiver_110 ?_
  obtain ⟨h111, e111, hE⟩ := nm_some hE
  refine g_puti C0 CK_11 CT_11 8 (by decide) t_1098 rfl (by decide +kernel) nd_M 0 rfl rfl d_M_takeRiver_111 ?_
  refine g_heap e111 ?_
  obtain ⟨v114, e114, hE⟩ := nm_some hE
  refine g_iinc C0 5 [(5, .int v114), (4, .int v102), (3, .int y0), (0, .ref (ad 100)), (1, .int x1), (2, .int x2)] d_M_takeRiver_114 rfl (by rw [e114]; rfl) (by decide) rfl ?_
  refine g_goto C0 (tgt := 24) d_M_takeRiver_117 (by decide) ?_
  refine g_sub [3, 4, 5, 2, 1, 0] (L' := [(0, .ref (ad 100)), (1, .int x1), (2, .int x2), (3, .int y0), (4, .int v102), (5, .int v114)]) rfl ?_
  exact hk1 _ (Option.some.inj hE).symm
theorem w_M_takeRiver_J92 {p : Program} {l : Launch} {e : Env} {s : State} {m : MethodId} {args : Array Value} {below : List Frame} {meth : Method} {c : Code} {K : KT} {A : Nat → Prop} {Q : State → Prop} (C0 : Cx p s m args meth c prog_13_method_13_code "CanoeSidesModel" 7 K A) (hr : meth.sig.returnType = (Option.none : Option Jvm.ClassFile.FieldType)) {ad : Nat → Nat} (N : Nat) (x1 : Int32) (x2 : Int32) (x5 : Int32) (h : Hp) {x_ : (Int32 × Int32 × Int32 × Hp) ⊕ (Int32 × Int32 × Hp)} (hE : K_M_takeRiver_J92 N x1 x2 x5 h = some x_) (hk1 : ∀ z_, x_ = .inl z_ → G p l e rm_M_takeRiver s m args below meth c K A WM 7 0 0 Q 24 [(0, .ref (ad 100)), (1, .int x1), (2, .int x2), (3, .int z_.1), (4, .int z_.2.1), (5, .int z_.2.2.1)] [] ad z_.2.2.2) (hk3 : ∀ z_, x_ = .inr z_ → G p l e rm_M_takeRiver s m args below meth c K A WM 7 0 0 Q 120 [(0, .ref (ad 100)), (1, .int x1), (2, .int x2), (3, .int z_.1), (4, .int z_.2.1)] [] ad z_.2.2) : G p l e rm_M_takeRiver s m args below meth c K A WM 7 0 0 Q 92 [(0, .ref (ad 100)), (1, .int x1), (2, .int x2), (5, .int x5)] [] ad h := by
  unfold K_M_takeRiver_J92 at hE
  refine g_iconst C0 (v := 1) d_M_takeRiver_92 (by decide) ?_
  refine g_goto C0 (tgt := 97) d_M_takeRiver_93 (by decide) ?_
  exact w_M_takeRiver_J97 C0 hr N x1 x2 x5 1 h hE hk1 hk3
theorem w_M_takeRiver_J59 {p : Program} {l : Launch} {e : Env} {s : State} {m : MethodId} {args : Array Value} {below : List Frame} {meth : Method} {c : Code} {K : KT} {A : Nat → Prop} {Q : State → Prop} (C0 : Cx p s m args meth c prog_13_method_13_code "CanoeSidesModel" 7 K A) (hr : meth.sig.returnType = (Option.none : Option Jvm.ClassFile.FieldType)) {ad : Nat → Nat} (N : Nat) (x1 : Int32) (x2 : Int32) (x3 : Int32) (x4 : Int32) (x5 : Int32) (x6 : Int32) (y1 : Int32) (h : Hp) {x_ : (Int32 × Int32 × Int32 × Hp) ⊕ (Int32 × Int32 × Hp)} (hE : K_M_takeRiver_J59 N x1 x2 x3 x4 x5 x6 y1 h = some x_) (hk1 : ∀ z_, x_ = .inl z_ → G p l e rm_M_takeRiver s m args below meth c K A WM 7 0 0 Q 24 [(0, .ref (ad 100)), (1, .int x1), (2, .int x2), (3, .int z_.1), (4, .int z_.2.1), (5, .int z_.2.2.1)] [] ad z_.2.2.2) (hk3 : ∀ z_, x_ = .inr z_ → G p l e rm_M_takeRiver s m args below meth c K A WM 7 0 0 Q 120 [(0, .ref (ad 100)), (1, .int x1), (2, .int x2), (3, .int z_.1), (4, .int z_.2.1)] [] ad z_.2.2) : G p l e rm_M_takeRiver s m args below meth c K A WM 7 0 0 Q 59 [(0, .ref (ad 100)), (1, .int x1), (2, .int x2), (3, .int x3), (4, .int x4), (5, .int x5), (6, .int x6)] [.int y1, .ref (ad 100)] ad h := by
  unfold K_M_takeRiver_J59 at hE
  refine g_iconst C0 (v := 1) d_M_takeRiver_59 (by decide) ?_
  refine g_aload_n C0 0 d_M_takeRiver_60 rfl rfl ?_
  refine g_geti C0 CK_11 8 (by decide) t_1098 0 rfl rfl d_M_takeRiver_61 ?_
  obtain ⟨v64, h64, z64, hE⟩ := bd2_some hE
  refine g_calli C0 nd_M [100, 101, 102, 103, 104, 105, 106, 107, 108, 109, 110, 111, 112, 113, 114, 115] rfl (sbW_self WM) (runV C0 (m_M_want l K ad h y1 1 (h 100 8) z64) 3 rfl ⟨t_1216, t_1218, t_44, t_97, t_1219⟩ cd_M_want (by decide) 0 rfl rfl (sbW_self WM) nd_M rfl rfl (Nat.le_of_ble_eq_true rfl) d_M_takeRiver_64) ?_
  refine g_mx [100, 101, 102, 103, 104, 105, 106, 107, 108, 109, 110, 111, 112, 113, 114, 115] rfl ?_
  have hB := ite_some hE
  refine g_if_eq C0 (tgt := 114) d_M_takeRiver_67 (by decide) (fun c_ => ?_) (fun c_ => ?_)
  · replace hE := hB.1 c_
    obtain ⟨v114, e114, hE⟩ := nm_some hE
    refine g_iinc C0 5 [(5, .int v114), (0, .ref (ad 100)), (1, .int x1), (2, .int x2), (3, .int x3), (4, .int x4), (6, .int x6)] d_M_takeRiver_114 rfl (by rw [e114]; rfl) (by decide) rfl ?_
    refine g_goto C0 (tgt := 24) d_M_takeRiver_117 (by decide) ?_
    refine g_sub [1, 2, 3, 4, 5, 0] (L' := [(0, .ref (ad 100)), (1, .int x1), (2, .int x2), (3, .int x3), (4, .int x4), (5, .int v114)]) rfl ?_
    exact hk1 _ (Option.some.inj hE).symm
  · replace hE := hB.2 c_
    refine g_aload_n C0 0 d_M_takeRiver_70 rfl rfl ?_
    refine g_getr C0 CK_11 2 (by decide) t_1092 0 rfl rfl d_M_takeRiver_71 ?_
    refine g_bipush C0 (v := 48) d_M_takeRiver_74 (by decide) ?_
    refine g_iload C0 5 d_M_takeRiver_76 rfl ?_
    refine g_iadd C0 d_M_takeRiver_78 ?_
    refine g_iload C0 6 d_M_takeRiver_79 rfl ?_
    obtain ⟨q81, hE⟩ := sA_some hE
    obtain ⟨h81, e81, hE⟩ := nm_some hE
    refine g_iast C0 3 rfl nd_M q81 d_M_takeRiver_81 ?_
    refine g_heap e81 ?_
    refine g_iload_n C0 3 d_M_takeRiver_82 rfl rfl ?_
    have hB := ite_some hE
    refine g_if_ne C0 (tgt := 92) d_M_takeRiver_83 (by decide) (fun c_ => ?_) (fun c_ => ?_)
    · replace hE := hB.2 c_
      refine g_sub [0, 1, 2, 5] (L' := [(0, .ref (ad 100)), (1, .int x1), (2, .int x2), (5, .int x5)]) rfl ?_
      exact w_M_takeRiver_J92 C0 hr N x1 x2 x5 h81 hE hk1 hk3
    · replace hE := hB.1 c_
      refine g_iload C0 6 d_M_takeRiver_86 rfl ?_
      refine g_iconst C0 (v := 1) d_M_takeRiver_88 (by decide) ?_
      have hB := ite_some hE
      refine g_icmp_eq C0 (tgt := 96) d_M_takeRiver_89 (by decide) (fun c_ => ?_) (fun c_ => ?_)
      · replace hE := hB.1 c_
        refine g_iconst C0 (v := 0) d_M_takeRiver_96 (by decide) ?_
        refine g_sub [0, 1, 2, 5] (L' := [(0, .ref (ad 100)), (1, .int x1), (2, .int x2), (5, .int x5)]) rfl ?_
        exact w_M_takeRiver_J97 C0 hr N x1 x2 x5 0 h81 hE hk1 hk3
      · replace hE := hB.2 c_
        refine g_sub [0, 1, 2, 5] (L' := [(0, .ref (ad 100)), (1, .int x1), (2, .int x2), (5, .int x5)]) rfl ?_
        exact w_M_takeRiver_J92 C0 hr N x1 x2 x5 h81 hE hk1 hk3
theorem w_M_takeRiver_L24 {p : Program} {l : Launch} {e : Env} {s : State} {m : MethodId} {args : Array Value} {below : List Frame} {meth : Method} {c : Code} {K : KT} {A : Nat → Prop} {Q : State → Prop} (C0 : Cx p s m args meth c prog_13_method_13_code "CanoeSidesModel" 7 K A) (hr : meth.sig.returnType = (Option.none : Option Jvm.ClassFile.FieldType)) {ad : Nat → Nat} (N : Nat) (x1 : Int32) (x2 : Int32) (x3 : Int32) (x4 : Int32) (x5 : Int32) (h : Hp) {x_ : (Int32 × Int32 × Int32 × Hp) ⊕ (Int32 × Int32 × Hp)} (hE : K_M_takeRiver_L24 N x1 x2 x3 x4 x5 h = some x_) (hk1 : ∀ z_, x_ = .inl z_ → G p l e rm_M_takeRiver s m args below meth c K A WM 7 0 0 Q 24 [(0, .ref (ad 100)), (1, .int x1), (2, .int x2), (3, .int z_.1), (4, .int z_.2.1), (5, .int z_.2.2.1)] [] ad z_.2.2.2) (hk3 : ∀ z_, x_ = .inr z_ → G p l e rm_M_takeRiver s m args below meth c K A WM 7 0 0 Q 120 [(0, .ref (ad 100)), (1, .int x1), (2, .int x2), (3, .int z_.1), (4, .int z_.2.1)] [] ad z_.2.2) : G p l e rm_M_takeRiver s m args below meth c K A WM 7 0 0 Q 24 [(0, .ref (ad 100)), (1, .int x1), (2, .int x2), (3, .int x3), (4, .int x4), (5, .int x5)] [] ad h := by
  unfold K_M_takeRiver_L24 at hE
  refine g_iload C0 5 d_M_takeRiver_24 rfl ?_
  refine g_iload_n C0 1 d_M_takeRiver_26 rfl rfl ?_
  refine g_iload_n C0 2 d_M_takeRiver_27 rfl rfl ?_
  refine g_imul C0 d_M_takeRiver_28 ?_
  have hB := ite_some hE
  refine g_icmp_ge C0 (tgt := 120) d_M_takeRiver_29 (by decide) (fun c_ => ?_) (fun c_ => ?_)
  · replace hE := hB.1 c_
    refine g_sub [0, 1, 2, 3, 4] (L' := [(0, .ref (ad 100)), (1, .int x1), (2, .int x2), (3, .int x3), (4, .int x4)]) rfl ?_
    exact hk3 _ (Option.some.inj hE).symm
  · replace hE := hB.2 c_
    refine g_aload_n C0 0 d_M_takeRiver_32 rfl rfl ?_
    refine g_geti C0 CK_11 10 (by decide) t_1100 0 rfl rfl d_M_takeRiver_33 ?_
    have hB := ite_some hE
    refine g_if_ne C0 (tgt := 120) d_M_takeRiver_36 (by decide) (fun c_ => ?_) (fun c_ => ?_)
    · replace hE := hB.2 c_
      refine g_sub [0, 1, 2, 3, 4] (L' := [(0, .ref (ad 100)), (1, .int x1), (2, .int x2), (3, .int x3), (4, .int x4)]) rfl ?_
      exact hk3 _ (Option.some.inj hE).symm
    · replace hE := hB.1 c_
      refine g_aload_n C0 0 d_M_takeRiver_39 rfl rfl ?_
      obtain ⟨v40, h40, z40, hE⟩ := bd2_some hE
      refine g_calli C0 nd_M [100, 101, 102, 103, 104, 105, 106, 107, 108, 109, 110, 111, 112, 113, 114, 115] rfl (sbW_self WM) (runV C0 (m_M_here l K ad h N z40) 0 rfl ⟨t_1205, t_1207, t_42, t_97, t_1208⟩ cd_M_here (by decide) 0 rfl rfl (sbW_self WM) nd_M rfl rfl (Nat.le_of_ble_eq_true rfl) d_M_takeRiver_40) ?_
      refine g_mx [100, 101, 102, 103, 104, 105, 106, 107, 108, 109, 110, 111, 112, 113, 114, 115] rfl ?_
      obtain ⟨v43, z43, hE⟩ := bd_some hE
      refine g_calliP C0 nd_M [] rfl (sb_E_M) (runS C0 (m_M_squareOf l K ad h40 v40 z43) 1 ⟨t_1234, t_1235, t_97, t_1236⟩ cd_M_squareOf (by decide) (sb_E_M) nd_E rfl rfl (Nat.le_of_ble_eq_true rfl) d_M_takeRiver_43) ?_
      refine g_istore C0 [(6, .int v43), (0, .ref (ad 100)), (1, .int x1), (2, .int x2), (3, .int x3), (4, .int x4), (5, .int x5)] d_M_takeRiver_46 (by decide) rfl ?_
      refine g_aload_n C0 1 d_M_takeRiver_48 rfl rfl ?_
      refine g_iload C0 0 d_M_takeRiver_49 rfl ?_
      have hB := ite_some hE
      refine g_if_lt C0 (tgt := 58) d_M_takeRiver_51 (by decide) (fun c_ => ?_) (fun c_ => ?_)
      · replace hE := hB.1 c_
        refine g_iconst C0 (v := 0) d_M_takeRiver_58 (by decide) ?_
        refine g_sub [1, 2, 3, 4, 5, 6, 0] (L' := [(0, .ref (ad 100)), (1, .int x1), (2, .int x2), (3, .int x3), (4, .int x4), (5, .int x5), (6, .int v43)]) rfl ?_
        exact w_M_takeRiver_J59 C0 hr N x1 x2 x3 x4 x5 v43 0 h40 hE hk1 hk3
      · replace hE := hB.2 c_
        refine g_iconst C0 (v := 1) d_M_takeRiver_54 (by decide) ?_
        refine g_goto C0 (tgt := 59) d_M_takeRiver_55 (by decide) ?_
        refine g_sub [1, 2, 3, 4, 5, 6, 0] (L' := [(0, .ref (ad 100)), (1, .int x1), (2, .int x2), (3, .int x3), (4, .int x4), (5, .int x5), (6, .int v43)]) rfl ?_
        exact w_M_takeRiver_J59 C0 hr N x1 x2 x3 x4 x5 v43 1 h40 hE hk1 hk3
theorem w_M_takeRiver_J120 {p : Program} {l : Launch} {e : Env} {s : State} {m : MethodId} {args : Array Value} {below : List Frame} {meth : Method} {c : Code} {K : KT} {A : Nat → Prop} (C0 : Cx p s m args meth c prog_13_method_13_code "CanoeSidesModel" 7 K A) (hr : meth.sig.returnType = (Option.none : Option Jvm.ClassFile.FieldType)) {ad : Nat → Nat} (N : Nat) (x1 : Int32) (x2 : Int32) (x3 : Int32) (x4 : Int32) (h : Hp) {res : Hp} (hE : K_M_takeRiver_J120 N x1 x2 x3 x4 h = some res) : G p l e rm_M_takeRiver s m args below meth c K A WM 7 0 0 (QV s args below K A WM 0 0 ad res) 120 [(0, .ref (ad 100)), (1, .int x1), (2, .int x2), (3, .int x3), (4, .int x4)] [] ad h := by
  unfold K_M_takeRiver_J120 at hE
  refine g_aload_n C0 0 d_M_takeRiver_120 rfl rfl ?_
  refine g_iload_n C0 3 d_M_takeRiver_121 rfl rfl ?_
  refine g_iconst C0 (v := 4) d_M_takeRiver_122 (by decide) ?_
  refine g_iload C0 4 d_M_takeRiver_123 rfl ?_
  obtain ⟨v125, h125, z125, hE⟩ := bd2_some hE
  refine g_calli C0 nd_M [100, 101, 102, 103, 104, 105, 106, 107, 108, 109, 110, 111, 112, 113, 114, 115] rfl (sbW_self WM) (runV C0 (m_M_want l K ad h x3 4 x4 z125) 3 rfl ⟨t_1216, t_1218, t_44, t_97, t_1219⟩ cd_M_want (by decide) 0 rfl rfl (sbW_self WM) nd_M rfl rfl (Nat.le_of_ble_eq_true rfl) d_M_takeRiver_125) ?_
  refine g_mx [100, 101, 102, 103, 104, 105, 106, 107, 108, 109, 110, 111, 112, 113, 114, 115] rfl ?_
  refine g_istore C0 [(5, .int v125), (0, .ref (ad 100)), (1, .int x1), (2, .int x2), (3, .int x3), (4, .int x4)] d_M_takeRiver_128 (by decide) rfl ?_
  refine g_aload_n C0 1 d_M_takeRiver_130 rfl rfl ?_
  refine g_getr C0 CK_11 3 (by decide) t_1093 0 rfl rfl d_M_takeRiver_131 ?_
  refine g_bipush C0 (v := 12) d_M_takeRiver_134 (by decide) ?_
  refine g_iload_n C0 2 d_M_takeRiver_136 rfl rfl ?_
  obtain ⟨q137, hE⟩ := sA_some hE
  obtain ⟨h137, e137, hE⟩ := nm_some hE
  refine g_iast C0 4 rfl nd_M q137 d_M_takeRiver_137 ?_
  refine g_heap e137 ?_
  refine g_aload_n C0 1 d_M_takeRiver_138 rfl rfl ?_
  refine g_getr C0 CK_11 3 (by decide) t_1093 0 rfl rfl d_M_takeRiver_139 ?_
  refine g_bipush C0 (v := 13) d_M_takeRiver_142 (by decide) ?_
  refine g_iload_n C0 3 d_M_takeRiver_144 rfl rfl ?_
  obtain ⟨q145, hE⟩ := sA_some hE
  obtain ⟨h145, e145, hE⟩ := nm_some hE
  refine g_iast C0 4 rfl nd_M q145 d_M_takeRiver_145 ?_
  refine g_heap e145 ?_
  obtain rfl := Option.some.inj hE
  exact g_vret C0 hr d_M_takeRiver_146
theorem w_M_takeRiver {p : Program} {l : Launch} {e : Env} {s : State} {m : MethodId} {args : Array Value} {below : List Frame} {meth : Method} {c : Code} {K : KT} {A : Nat → Prop} (C0 : Cx p s m args meth c prog_13_method_13_code "CanoeSidesModel" 7 K A) (hr : meth.sig.returnType = (Option.none : Option Jvm.ClassFile.FieldType)) {ad : Nat → Nat} (N : Nat) (h : Hp) {res : Hp} (hE : K_M_takeRiver N h = some res) : G p l e rm_M_takeRiver s m args below meth c K A WM 7 0 0 (QV s args below K A WM 0 0 ad res) 0 [(0, .ref (ad 100))] [] ad h := by
  unfold K_M_takeRiver at hE
  refine g_aload_n C0 0 d_M_takeRiver_0 rfl rfl ?_
  refine g_iconst C0 (v := 1) d_M_takeRiver_1 (by decide) ?_
  refine g_bipush C0 (v := 8) d_M_takeRiver_2 (by decide) ?_
  obtain ⟨v4, h4, z4, hE⟩ := bd2_some hE
  refine g_calli C0 nd_M [100, 101, 102, 103, 104, 105, 106, 107, 108, 109, 110, 111, 112, 113, 114, 115] rfl (sbW_self WM) (runV C0 (m_M_takeNumber l K ad h N 1 8 z4) 2 rfl ⟨t_1227, t_1229, t_46, t_97, t_1230⟩ cd_M_takeNumber (by decide) 0 rfl rfl (sbW_self WM) nd_M rfl rfl (Nat.le_of_ble_eq_true rfl) d_M_takeRiver_4) ?_
  refine g_mx [100, 101, 102, 103, 104, 105, 106, 107, 108, 109, 110, 111, 112, 113, 114, 115] rfl ?_
  refine g_istore_n C0 [(1, .int v4), (0, .ref (ad 100))] d_M_takeRiver_7 rfl (by decide) rfl ?_
  refine g_aload_n C0 1 d_M_takeRiver_8 rfl rfl ?_
  refine g_iconst C0 (v := 1) d_M_takeRiver_9 (by decide) ?_
  refine g_bipush C0 (v := 6) d_M_takeRiver_10 (by decide) ?_
  obtain ⟨v12, h12, z12, hE⟩ := bd2_some hE
  refine g_calli C0 nd_M [100, 101, 102, 103, 104, 105, 106, 107, 108, 109, 110, 111, 112, 113, 114, 115] rfl (sbW_self WM) (runV C0 (m_M_takeNumber l K ad h4 N 1 6 z12) 2 rfl ⟨t_1227, t_1229, t_46, t_97, t_1230⟩ cd_M_takeNumber (by decide) 0 rfl rfl (sbW_self WM) nd_M rfl rfl (Nat.le_of_ble_eq_true rfl) d_M_takeRiver_12) ?_
  refine g_mx [100, 101, 102, 103, 104, 105, 106, 107, 108, 109, 110, 111, 112, 113, 114, 115] rfl ?_
  refine g_istore_n C0 [(2, .int v12), (1, .int v4), (0, .ref (ad 100))] d_M_takeRiver_15 rfl (by decide) rfl ?_
  refine g_iconst C0 (v := 0) d_M_takeRiver_16 (by decide) ?_
  refine g_istore_n C0 [(3, .int 0), (2, .int v12), (1, .int v4), (0, .ref (ad 100))] d_M_takeRiver_17 rfl (by decide) rfl ?_
  refine g_iconst C0 (v := 0) d_M_takeRiver_18 (by decide) ?_
  refine g_istore C0 [(4, .int 0), (3, .int 0), (2, .int v12), (1, .int v4), (0, .ref (ad 100))] d_M_takeRiver_19 (by decide) rfl ?_
  refine g_iconst C0 (v := 0) d_M_takeRiver_21 (by decide) ?_
  refine g_istore C0 [(5, .int 0), (4, .int 0), (3, .int 0), (2, .int v12), (1, .int v4), (0, .ref (ad 100))] d_M_takeRiver_22 (by decide) rfl ?_
  refine g_sub [5, 4, 3, 2, 1, 0] (L' := [(0, .ref (ad 100)), (1, .int v4), (2, .int v12), (3, .int 0), (4, .int 0), (5, .int 0)]) rfl ?_
  obtain ⟨t24, z24, hE⟩ := bd_some hE
  refine loopG (fun z_ : Int32 × Int32 × Int32 × Hp => K_M_takeRiver_L24 N v4 v12 z_.1 z_.2.1 z_.2.2.1 z_.2.2.2) (fun z_ : Int32 × Int32 × Int32 × Hp => G p l e rm_M_takeRiver s m args below meth c K A WM 7 0 0 _ 24 [(0, .ref (ad 100)), (1, .int v4), (2, .int v12), (3, .int z_.1), (4, .int z_.2.1), (5, .int z_.2.2.1)] [] ad z_.2.2.2) (fun z_ : Int32 × Int32 × Hp => G p l e rm_M_takeRiver s m args below meth c K A WM 7 0 0 _ 120 [(0, .ref (ad 100)), (1, .int v4), (2, .int v12), (3, .int z_.1), (4, .int z_.2.1)] [] ad z_.2.2) (fun z_ x_ hz k1 k2 => w_M_takeRiver_L24 C0 hr N v4 v12 z_.1 z_.2.1 z_.2.2.1 z_.2.2.2 hz k1 k2) _ _ _ z24 ?_
  try dsimp only
  exact w_M_takeRiver_J120 C0 hr N v4 v12 t24.1 t24.2.1 t24.2.2 hE
theorem m_M_takeRiver (l : Launch) (K : KT) (ad : Nat → Nat) (h : Hp) (N : Nat) {res : Hp} (hE : K_M_takeRiver N h = some res) : ConV l y_M_takeRiver prog_13_method_13_code 7 (Option.none : Option Jvm.ClassFile.FieldType) rm_M_takeRiver K WM ad h [.ref (ad 100)] res := fun sz =>
  con_start [(0, .ref (ad 100))] (by decide +kernel) rfl (Nat.le_of_ble_eq_true rfl) (fun p e s m args below meth c C0 hr hnm hsz => w_M_takeRiver C0 hr N h hE)
abbrev y_M_takeSquare : MethodName := ⟨"CanoeSidesModel", "takeSquare", "()I"⟩
abbrev rm_M_takeSquare : Room := { frames := 2, cells := 0, slots := 0, locals := 50 }
theorem cd_M_takeSquare : cwd y_M_takeSquare 0 := by decide +kernel
theorem d_M_takeSquare_0 : decode prog_13_method_14_code 0 = .ok (.aload_n 0, 1) := by decide +kernel
theorem d_M_takeSquare_1 : decode prog_13_method_14_code 1 = .ok (.iconst 0, 1) := by decide +kernel
theorem d_M_takeSquare_2 : decode prog_13_method_14_code 2 = .ok (.aload_n 0, 1) := by decide +kernel
theorem d_M_takeSquare_3 : decode prog_13_method_14_code 3 = .ok (.getfield 20, 3) := by decide +kernel
theorem d_M_takeSquare_6 : decode prog_13_method_14_code 6 = .ok (.bipush 12, 2) := by decide +kernel
theorem d_M_takeSquare_8 : decode prog_13_method_14_code 8 = .ok (.iaload, 1) := by decide +kernel
theorem d_M_takeSquare_9 : decode prog_13_method_14_code 9 = .ok (.iconst 1, 1) := by decide +kernel
theorem d_M_takeSquare_10 : decode prog_13_method_14_code 10 = .ok (.isub, 1) := by decide +kernel
theorem d_M_takeSquare_11 : decode prog_13_method_14_code 11 = .ok (.invokevirtual 98, 3) := by decide +kernel
theorem d_M_takeSquare_14 : decode prog_13_method_14_code 14 = .ok (.istore_n 1, 1) := by decide +kernel
theorem d_M_takeSquare_15 : decode prog_13_method_14_code 15 = .ok (.aload_n 0, 1) := by decide +kernel
theorem d_M_takeSquare_16 : decode prog_13_method_14_code 16 = .ok (.iconst 0, 1) := by decide +kernel
theorem d_M_takeSquare_17 : decode prog_13_method_14_code 17 = .ok (.aload_n 0, 1) := by decide +kernel
theorem d_M_takeSquare_18 : decode prog_13_method_14_code 18 = .ok (.getfield 20, 3) := by decide +kernel
theorem d_M_takeSquare_21 : decode prog_13_method_14_code 21 = .ok (.bipush 13, 2) := by decide +kernel
theorem d_M_takeSquare_23 : decode prog_13_method_14_code 23 = .ok (.iaload, 1) := by decide +kernel
theorem d_M_takeSquare_24 : decode prog_13_method_14_code 24 = .ok (.iconst 1, 1) := by decide +kernel
theorem d_M_takeSquare_25 : decode prog_13_method_14_code 25 = .ok (.isub, 1) := by decide +kernel
theorem d_M_takeSquare_26 : decode prog_13_method_14_code 26 = .ok (.invokevirtual 98, 3) := by decide +kernel
theorem d_M_takeSquare_29 : decode prog_13_method_14_code 29 = .ok (.istore_n 2, 1) := by decide +kernel
theorem d_M_takeSquare_30 : decode prog_13_method_14_code 30 = .ok (.iload_n 2, 1) := by decide +kernel
theorem d_M_takeSquare_31 : decode prog_13_method_14_code 31 = .ok (.aload_n 0, 1) := by decide +kernel
theorem d_M_takeSquare_32 : decode prog_13_method_14_code 32 = .ok (.getfield 20, 3) := by decide +kernel
theorem d_M_takeSquare_35 : decode prog_13_method_14_code 35 = .ok (.bipush 12, 2) := by decide +kernel
theorem d_M_takeSquare_37 : decode prog_13_method_14_code 37 = .ok (.iaload, 1) := by decide +kernel
theorem d_M_takeSquare_38 : decode prog_13_method_14_code 38 = .ok (.imul, 1) := by decide +kernel
theorem d_M_takeSquare_39 : decode prog_13_method_14_code 39 = .ok (.iload_n 1, 1) := by decide +kernel
theorem d_M_takeSquare_40 : decode prog_13_method_14_code 40 = .ok (.iadd, 1) := by decide +kernel
theorem d_M_takeSquare_41 : decode prog_13_method_14_code 41 = .ok (.istore_n 3, 1) := by decide +kernel
theorem d_M_takeSquare_42 : decode prog_13_method_14_code 42 = .ok (.aload_n 0, 1) := by decide +kernel
theorem d_M_takeSquare_43 : decode prog_13_method_14_code 43 = .ok (.getfield 79, 3) := by decide +kernel
theorem d_M_takeSquare_46 : decode prog_13_method_14_code 46 = .ok (.ifCond .ne 37, 3) := by decide +kernel
theorem d_M_takeSquare_49 : decode prog_13_method_14_code 49 = .ok (.aload_n 0, 1) := by decide +kernel
theorem d_M_takeSquare_50 : decode prog_13_method_14_code 50 = .ok (.aload_n 0, 1) := by decide +kernel
theorem d_M_takeSquare_51 : decode prog_13_method_14_code 51 = .ok (.getfield 17, 3) := by decide +kernel
theorem d_M_takeSquare_54 : decode prog_13_method_14_code 54 = .ok (.bipush 48, 2) := by decide +kernel
theorem d_M_takeSquare_56 : decode prog_13_method_14_code 56 = .ok (.iload_n 3, 1) := by decide +kernel
theorem d_M_takeSquare_57 : decode prog_13_method_14_code 57 = .ok (.iadd, 1) := by decide +kernel
theorem d_M_takeSquare_58 : decode prog_13_method_14_code 58 = .ok (.iaload, 1) := by decide +kernel
theorem d_M_takeSquare_59 : decode prog_13_method_14_code 59 = .ok (.iconst 1, 1) := by decide +kernel
theorem d_M_takeSquare_60 : decode prog_13_method_14_code 60 = .ok (.if_icmp .eq 7, 3) := by decide +kernel
theorem d_M_takeSquare_63 : decode prog_13_method_14_code 63 = .ok (.iconst 1, 1) := by decide +kernel
theorem d_M_takeSquare_64 : decode prog_13_method_14_code 64 = .ok (.goto 4, 3) := by decide +kernel
theorem d_M_takeSquare_67 : decode prog_13_method_14_code 67 = .ok (.iconst 0, 1) := by decide +kernel
theorem d_M_takeSquare_68 : decode prog_13_method_14_code 68 = .ok (.iconst 4, 1) := by decide +kernel
theorem d_M_takeSquare_69 : decode prog_13_method_14_code 69 = .ok (.aload_n 0, 1) := by decide +kernel
theorem d_M_takeSquare_70 : decode prog_13_method_14_code 70 = .ok (.getfield 86, 3) := by decide +kernel
theorem d_M_takeSquare_73 : decode prog_13_method_14_code 73 = .ok (.invokevirtual 93, 3) := by decide +kernel
theorem d_M_takeSquare_76 : decode prog_13_method_14_code 76 = .ok (.ifCond .eq 7, 3) := by decide +kernel
theorem d_M_takeSquare_79 : decode prog_13_method_14_code 79 = .ok (.iload_n 3, 1) := by decide +kernel
theorem d_M_takeSquare_80 : decode prog_13_method_14_code 80 = .ok (.goto 4, 3) := by decide +kernel
theorem d_M_takeSquare_83 : decode prog_13_method_14_code 83 = .ok (.iconst 0, 1) := by decide +kernel
theorem d_M_takeSquare_84 : decode prog_13_method_14_code 84 = .ok (.ireturn, 1) := by decide +kernel
theorem w_M_takeSquare_J68 {p : Program} {l : Launch} {e : Env} {s : State} {m : MethodId} {args : Array Value} {below : List Frame} {meth : Method} {c : Code} {K : KT} {A : Nat → Prop} (C0 : Cx p s m args meth c prog_13_method_14_code "CanoeSidesModel" 4 K A) (hr : meth.sig.returnType = (Option.some Jvm.ClassFile.FieldType.int)) {ad : Nat → Nat} (N : Nat) (x3 : Int32) (y1 : Int32) (h : Hp) {res : Int32 × Hp} (hE : K_M_takeSquare_J68 N x3 y1 h = some res) : G p l e rm_M_takeSquare s m args below meth c K A WM 4 0 0 (QI s args below K A WM 0 0 ad res.1 res.2) 68 [(0, .ref (ad 100)), (3, .int x3)] [.int y1, .ref (ad 100)] ad h := by
  unfold K_M_takeSquare_J68 at hE
  refine g_iconst C0 (v := 4) d_M_takeSquare_68 (by decide) ?_
  refine g_aload_n C0 0 d_M_takeSquare_69 rfl rfl ?_
  refine g_geti C0 CK_11 9 (by decide) t_1099 0 rfl rfl d_M_takeSquare_70 ?_
  obtain ⟨v73, h73, z73, hE⟩ := bd2_some hE
  refine g_calli C0 nd_M [100, 101, 102, 103, 104, 105, 106, 107, 108, 109, 110, 111, 112, 113, 114, 115] rfl (sbW_self WM) (runV C0 (m_M_want l K ad h y1 4 (h 100 9) z73) 3 rfl ⟨t_1216, t_1218, t_44, t_97, t_1219⟩ cd_M_want (by decide) 0 rfl rfl (sbW_self WM) nd_M rfl rfl (Nat.le_of_ble_eq_true rfl) d_M_takeSquare_73) ?_
  refine g_mx [100, 101, 102, 103, 104, 105, 106, 107, 108, 109, 110, 111, 112, 113, 114, 115] rfl ?_
  have hB := ite_some hE
  refine g_if_eq C0 (tgt := 83) d_M_takeSquare_76 (by decide) (fun c_ => ?_) (fun c_ => ?_)
  · replace hE := hB.1 c_
    refine g_iconst C0 (v := 0) d_M_takeSquare_83 (by decide) ?_
    obtain rfl := Option.some.inj hE
    exact g_iret C0 hr d_M_takeSquare_84
  · replace hE := hB.2 c_
    refine g_iload_n C0 1 d_M_takeSquare_79 rfl rfl ?_
    refine g_goto C0 (tgt := 84) d_M_takeSquare_80 (by decide) ?_
    obtain rfl := Option.some.inj hE
    exact g_iret C0 hr d_M_takeSquare_84
theorem w_M_takeSquare {p : Program} {l : Launch} {e : Env} {s : State} {m : MethodId} {args : Array Value} {below : List Frame} {meth : Method} {c : Code} {K : KT} {A : Nat → Prop} (C0 : Cx p s m args meth c prog_13_method_14_code "CanoeSidesModel" 4 K A) (hr : meth.sig.returnType = (Option.some Jvm.ClassFile.FieldType.int)) {ad : Nat → Nat} (N : Nat) (h : Hp) {res : Int32 × Hp} (hE : K_M_takeSquare N h = some res) : G p l e rm_M_takeSquare s m args below meth c K A WM 4 0 0 (QI s args below K A WM 0 0 ad res.1 res.2) 0 [(0, .ref (ad 100))] [] ad h := by
  unfold K_M_takeSquare at hE
  refine g_aload_n C0 0 d_M_takeSquare_0 rfl rfl ?_
  refine g_iconst C0 (v := 0) d_M_takeSquare_1 (by decide) ?_
  refine g_aload_n C0 0 d_M_takeSquare_2 rfl rfl ?_
  refine g_getr C0 CK_11 3 (by decide) t_1093 0 rfl rfl d_M_takeSquare_3 ?_
  refine g_bipush C0 (v := 12) d_M_takeSquare_6 (by decide) ?_
  obtain ⟨q8, v8, e8, hE⟩ := gA_some hE
  refine g_iald C0 4 rfl q8 d_M_takeSquare_8 ?_
  refine g_top e8 ?_
  refine g_iconst C0 (v := 1) d_M_takeSquare_9 (by decide) ?_
  refine g_isub C0 d_M_takeSquare_10 ?_
  obtain ⟨v11, h11, z11, hE⟩ := bd2_some hE
  refine g_calli C0 nd_M [100, 101, 102, 103, 104, 105, 106, 107, 108, 109, 110, 111, 112, 113, 114, 115] rfl (sbW_self WM) (runV C0 (m_M_takeNumber l K ad h N 0 (v8 - 1) z11) 2 rfl ⟨t_1227, t_1229, t_46, t_97, t_1230⟩ cd_M_takeNumber (by decide) 0 rfl rfl (sbW_self WM) nd_M rfl rfl (Nat.le_of_ble_eq_true rfl) d_M_takeSquare_11) ?_
  refine g_mx [100, 101, 102, 103, 104, 105, 106, 107, 108, 109, 110, 111, 112, 113, 114, 115] rfl ?_
  refine g_istore_n C0 [(1, .int v11), (0, .ref (ad 100))] d_M_takeSquare_14 rfl (by decide) rfl ?_
  refine g_aload_n C0 1 d_M_takeSquare_15 rfl rfl ?_
  refine g_iconst C0 (v := 0) d_M_takeSquare_16 (by decide) ?_
  refine g_aload_n C0 1 d_M_takeSquare_17 rfl rfl ?_
  refine g_getr C0 CK_11 3 (by decide) t_1093 0 rfl rfl d_M_takeSquare_18 ?_
  refine g_bipush C0 (v := 13) d_M_takeSquare_21 (by decide) ?_
  obtain ⟨q23, v23, e23, hE⟩ := gA_some hE
  refine g_iald C0 4 rfl q23 d_M_takeSquare_23 ?_
  refine g_top e23 ?_
  refine g_iconst C0 (v := 1) d_M_takeSquare_24 (by decide) ?_
  refine g_isub C0 d_M_takeSquare_25 ?_
  obtain ⟨v26, h26, z26, hE⟩ := bd2_some hE
  refine g_calli C0 nd_M [100, 101, 102, 103, 104, 105, 106, 107, 108, 109, 110, 111, 112, 113, 114, 115] rfl (sbW_self WM) (runV C0 (m_M_takeNumber l K ad h11 N 0 (v23 - 1) z26) 2 rfl ⟨t_1227, t_1229, t_46, t_97, t_1230⟩ cd_M_takeNumber (by decide) 0 rfl rfl (sbW_self WM) nd_M rfl rfl (Nat.le_of_ble_eq_true rfl) d_M_takeSquare_26) ?_
  refine g_mx [100, 101, 102, 103, 104, 105, 106, 107, 108, 109, 110, 111, 112, 113, 114, 115] rfl ?_
  refine g_istore_n C0 [(2, .int v26), (1, .int v11), (0, .ref (ad 100))] d_M_takeSquare_29 rfl (by decide) rfl ?_
  refine g_iload_n C0 0 d_M_takeSquare_30 rfl rfl ?_
  refine g_aload_n C0 2 d_M_takeSquare_31 rfl rfl ?_
  refine g_getr C0 CK_11 3 (by decide) t_1093 0 rfl rfl d_M_takeSquare_32 ?_
  refine g_bipush C0 (v := 12) d_M_takeSquare_35 (by decide) ?_
  obtain ⟨q37, v37, e37, hE⟩ := gA_some hE
  refine g_iald C0 4 rfl q37 d_M_takeSquare_37 ?_
  refine g_top e37 ?_
  refine g_imul C0 d_M_takeSquare_38 ?_
  refine g_iload_n C0 1 d_M_takeSquare_39 rfl rfl ?_
  refine g_iadd C0 d_M_takeSquare_40 ?_
  obtain ⟨v41, e41, hE⟩ := nm_some hE
  refine g_top e41 ?_
  refine g_istore_n C0 [(3, .int v41), (2, .int v26), (1, .int v11), (0, .ref (ad 100))] d_M_takeSquare_41 rfl (by decide) rfl ?_
  refine g_aload_n C0 3 d_M_takeSquare_42 rfl rfl ?_
  refine g_geti C0 CK_11 10 (by decide) t_1100 0 rfl rfl d_M_takeSquare_43 ?_
  have hB := ite_some hE
  refine g_if_ne C0 (tgt := 83) d_M_takeSquare_46 (by decide) (fun c_ => ?_) (fun c_ => ?_)
  · replace hE := hB.2 c_
    refine g_iconst C0 (v := 0) d_M_takeSquare_83 (by decide) ?_
    obtain rfl := Option.some.inj hE
    exact g_iret C0 hr d_M_takeSquare_84
  · replace hE := hB.1 c_
    refine g_aload_n C0 3 d_M_takeSquare_49 rfl rfl ?_
    refine g_aload_n C0 3 d_M_takeSquare_50 rfl rfl ?_
    refine g_getr C0 CK_11 2 (by decide) t_1092 0 rfl rfl d_M_takeSquare_51 ?_
    refine g_bipush C0 (v := 48) d_M_takeSquare_54 (by decide) ?_
    refine g_iload_n C0 0 d_M_takeSquare_56 rfl rfl ?_
    refine g_iadd C0 d_M_takeSquare_57 ?_
    obtain ⟨q58, v58, e58, hE⟩ := gA_some hE
    refine g_iald C0 3 rfl q58 d_M_takeSquare_58 ?_
    refine g_top e58 ?_
    refine g_iconst C0 (v := 1) d_M_takeSquare_59 (by decide) ?_
    have hB := ite_some hE
    refine g_icmp_eq C0 (tgt := 67) d_M_takeSquare_60 (by decide) (fun c_ => ?_) (fun c_ => ?_)
    · replace hE := hB.1 c_
      refine g_iconst C0 (v := 0) d_M_takeSquare_67 (by decide) ?_
      refine g_sub [3, 0] (L' := [(0, .ref (ad 100)), (3, .int v41)]) rfl ?_
      exact w_M_takeSquare_J68 C0 hr N v41 0 h26 hE
    · replace hE := hB.2 c_
      refine g_iconst C0 (v := 1) d_M_takeSquare_63 (by decide) ?_
      refine g_goto C0 (tgt := 68) d_M_takeSquare_64 (by decide) ?_
      refine g_sub [3, 0] (L' := [(0, .ref (ad 100)), (3, .int v41)]) rfl ?_
      exact w_M_takeSquare_J68 C0 hr N v41 1 h26 hE
theorem m_M_takeSquare (l : Launch) (K : KT) (ad : Nat → Nat) (h : Hp) (N : Nat) {res : Int32 × Hp} (hE : K_M_takeSquare N h = some res) : ConI l y_M_takeSquare prog_13_method_14_code 4 (Option.some Jvm.ClassFile.FieldType.int) rm_M_takeSquare K WM ad h [.ref (ad 100)] res.1 res.2 := fun sz =>
  con_start [(0, .ref (ad 100))] (by decide +kernel) rfl (Nat.le_of_ble_eq_true rfl) (fun p e s m args below meth c C0 hr hnm hsz => w_M_takeSquare C0 hr N h hE)
abbrev y_M_takeHabits : MethodName := ⟨"CanoeSidesModel", "takeHabits", "()V"⟩
abbrev rm_M_takeHabits : Room := { frames := 1, cells := 0, slots := 0, locals := 23 }
theorem cd_M_takeHabits : cwd y_M_takeHabits 0 := by decide +kernel
theorem d_M_takeHabits_0 : decode prog_13_method_15_code 0 = .ok (.iconst 0, 1) := by decide +kernel
theorem d_M_takeHabits_1 : decode prog_13_method_15_code 1 = .ok (.istore_n 1, 1) := by decide +kernel
theorem d_M_takeHabits_2 : decode prog_13_method_15_code 2 = .ok (.iload_n 1, 1) := by decide +kernel
theorem d_M_takeHabits_3 : decode prog_13_method_15_code 3 = .ok (.bipush 8, 2) := by decide +kernel
theorem d_M_takeHabits_5 : decode prog_13_method_15_code 5 = .ok (.if_icmp .ge 65, 3) := by decide +kernel
theorem d_M_takeHabits_8 : decode prog_13_method_15_code 8 = .ok (.aload_n 0, 1) := by decide +kernel
theorem d_M_takeHabits_9 : decode prog_13_method_15_code 9 = .ok (.getfield 79, 3) := by decide +kernel
theorem d_M_takeHabits_12 : decode prog_13_method_15_code 12 = .ok (.ifCond .ne 58, 3) := by decide +kernel
theorem d_M_takeHabits_15 : decode prog_13_method_15_code 15 = .ok (.aload_n 0, 1) := by decide +kernel
theorem d_M_takeHabits_16 : decode prog_13_method_15_code 16 = .ok (.invokevirtual 82, 3) := by decide +kernel
theorem d_M_takeHabits_19 : decode prog_13_method_15_code 19 = .ok (.invokestatic 106, 3) := by decide +kernel
theorem d_M_takeHabits_22 : decode prog_13_method_15_code 22 = .ok (.istore_n 2, 1) := by decide +kernel
theorem d_M_takeHabits_23 : decode prog_13_method_15_code 23 = .ok (.aload_n 0, 1) := by decide +kernel
theorem d_M_takeHabits_24 : decode prog_13_method_15_code 24 = .ok (.iload_n 2, 1) := by decide +kernel
theorem d_M_takeHabits_25 : decode prog_13_method_15_code 25 = .ok (.ifCond .lt 7, 3) := by decide +kernel
theorem d_M_takeHabits_28 : decode prog_13_method_15_code 28 = .ok (.iconst 1, 1) := by decide +kernel
theorem d_M_takeHabits_29 : decode prog_13_method_15_code 29 = .ok (.goto 4, 3) := by decide +kernel
theorem d_M_takeHabits_32 : decode prog_13_method_15_code 32 = .ok (.iconst 0, 1) := by decide +kernel
theorem d_M_takeHabits_33 : decode prog_13_method_15_code 33 = .ok (.iconst 1, 1) := by decide +kernel
theorem d_M_takeHabits_34 : decode prog_13_method_15_code 34 = .ok (.aload_n 0, 1) := by decide +kernel
theorem d_M_takeHabits_35 : decode prog_13_method_15_code 35 = .ok (.getfield 76, 3) := by decide +kernel
theorem d_M_takeHabits_38 : decode prog_13_method_15_code 38 = .ok (.invokevirtual 93, 3) := by decide +kernel
theorem d_M_takeHabits_41 : decode prog_13_method_15_code 41 = .ok (.ifCond .eq 23, 3) := by decide +kernel
theorem d_M_takeHabits_44 : decode prog_13_method_15_code 44 = .ok (.aload_n 0, 1) := by decide +kernel
theorem d_M_takeHabits_45 : decode prog_13_method_15_code 45 = .ok (.getfield 23, 3) := by decide +kernel
theorem d_M_takeHabits_48 : decode prog_13_method_15_code 48 = .ok (.bipush 8, 2) := by decide +kernel
theorem d_M_takeHabits_50 : decode prog_13_method_15_code 50 = .ok (.iload_n 1, 1) := by decide +kernel
theorem d_M_takeHabits_51 : decode prog_13_method_15_code 51 = .ok (.iadd, 1) := by decide +kernel
theorem d_M_takeHabits_52 : decode prog_13_method_15_code 52 = .ok (.iload_n 2, 1) := by decide +kernel
theorem d_M_takeHabits_53 : decode prog_13_method_15_code 53 = .ok (.iastore, 1) := by decide +kernel
theorem d_M_takeHabits_54 : decode prog_13_method_15_code 54 = .ok (.aload_n 0, 1) := by decide +kernel
theorem d_M_takeHabits_55 : decode prog_13_method_15_code 55 = .ok (.dup, 1) := by decide +kernel
theorem d_M_takeHabits_56 : decode prog_13_method_15_code 56 = .ok (.getfield 76, 3) := by decide +kernel
theorem d_M_takeHabits_59 : decode prog_13_method_15_code 59 = .ok (.iconst 1, 1) := by decide +kernel
theorem d_M_takeHabits_60 : decode prog_13_method_15_code 60 = .ok (.iadd, 1) := by decide +kernel
theorem d_M_takeHabits_61 : decode prog_13_method_15_code 61 = .ok (.putfield 76, 3) := by decide +kernel
theorem d_M_takeHabits_64 : decode prog_13_method_15_code 64 = .ok (.iinc 1 1, 3) := by decide +kernel
theorem d_M_takeHabits_67 : decode prog_13_method_15_code 67 = .ok (.goto (-65), 3) := by decide +kernel
theorem d_M_takeHabits_70 : decode prog_13_method_15_code 70 = .ok (.return_, 1) := by decide +kernel
theorem w_M_takeHabits_J33 {p : Program} {l : Launch} {e : Env} {s : State} {m : MethodId} {args : Array Value} {below : List Frame} {meth : Method} {c : Code} {K : KT} {A : Nat → Prop} {Q : State → Prop} (C0 : Cx p s m args meth c prog_13_method_15_code "CanoeSidesModel" 3 K A) (hr : meth.sig.returnType = (Option.none : Option Jvm.ClassFile.FieldType)) {ad : Nat → Nat} (N : Nat) (x1 : Int32) (x2 : Int32) (y1 : Int32) (h : Hp) {x_ : (Int32 × Hp) ⊕ (Hp)} (hE : K_M_takeHabits_J33 N x1 x2 y1 h = some x_) (hk1 : ∀ z_, x_ = .inl z_ → G p l e rm_M_takeHabits s m args below meth c K A WM 3 0 0 Q 2 [(0, .ref (ad 100)), (1, .int z_.1)] [] ad z_.2) (hk3 : ∀ z_, x_ = .inr z_ → G p l e rm_M_takeHabits s m args below meth c K A WM 3 0 0 Q 70 [] [] ad z_) : G p l e rm_M_takeHabits s m args below meth c K A WM 3 0 0 Q 33 [(0, .ref (ad 100)), (1, .int x1), (2, .int x2)] [.int y1, .ref (ad 100)] ad h := by
  unfold K_M_takeHabits_J33 at hE
  refine g_iconst C0 (v := 1) d_M_takeHabits_33 (by decide) ?_
  refine g_aload_n C0 0 d_M_takeHabits_34 rfl rfl ?_
  refine g_geti C0 CK_11 8 (by decide) t_1098 0 rfl rfl d_M_takeHabits_35 ?_
  obtain ⟨v38, h38, z38, hE⟩ := bd2_some hE
  refine g_calli C0 nd_M [100, 101, 102, 103, 104, 105, 106, 107, 108, 109, 110, 111, 112, 113, 114, 115] rfl (sbW_self WM) (runV C0 (m_M_want l K ad h y1 1 (h 100 8) z38) 3 rfl ⟨t_1216, t_1218, t_44, t_97, t_1219⟩ cd_M_want (by decide) 0 rfl rfl (sbW_self WM) nd_M rfl rfl (Nat.le_of_ble_eq_true rfl) d_M_takeHabits_38) ?_
  refine g_mx [100, 101, 102, 103, 104, 105, 106, 107, 108, 109, 110, 111, 112, 113, 114, 115] rfl ?_
  have hB := ite_some hE
  refine g_if_eq C0 (tgt := 64) d_M_takeHabits_41 (by decide) (fun c_ => ?_) (fun c_ => ?_)
  · replace hE := hB.1 c_
    obtain ⟨v64, e64, hE⟩ := nm_some hE
    refine g_iinc C0 1 [(1, .int v64), (0, .ref (ad 100)), (2, .int x2)] d_M_takeHabits_64 rfl (by rw [e64]; rfl) (by decide) rfl ?_
    refine g_goto C0 (tgt := 2) d_M_takeHabits_67 (by decide) ?_
    refine g_sub [1, 0] (L' := [(0, .ref (ad 100)), (1, .int v64)]) rfl ?_
    exact hk1 _ (Option.some.inj hE).symm
  · replace hE := hB.2 c_
    refine g_aload_n C0 0 d_M_takeHabits_44 rfl rfl ?_
    refine g_getr C0 CK_11 4 (by decide) t_1094 0 rfl rfl d_M_takeHabits_45 ?_
    refine g_bipush C0 (v := 8) d_M_takeHabits_48 (by decide) ?_
    refine g_iload_n C0 1 d_M_takeHabits_50 rfl rfl ?_
    refine g_iadd C0 d_M_takeHabits_51 ?_
    refine g_iload_n C0 2 d_M_takeHabits_52 rfl rfl ?_
    obtain ⟨q53, hE⟩ := sA_some hE
    obtain ⟨h53, e53, hE⟩ := nm_some hE
    refine g_iast C0 5 rfl nd_M q53 d_M_takeHabits_53 ?_
    refine g_heap e53 ?_
    refine g_aload_n C0 0 d_M_takeHabits_54 rfl rfl ?_
    refine g_dup C0 d_M_takeHabits_55 rfl ?_
    refine g_geti C0 CK_11 8 (by decide) t_1098 0 rfl rfl d_M_takeHabits_56 ?_
    refine g_iconst C0 (v := 1) d_M_takeHabits_59 (by decide) ?_
    refine g_iadd C0 d_M_takeHabits_60 ?_
    obtain ⟨h61, e61, hE⟩ := nm_some hE
    refine g_puti C0 CK_11 CT_11 8 (by decide) t_1098 rfl (by decide +kernel) nd_M 0 rfl rfl d_M_takeHabits_61 ?_
    refine g_heap e61 ?_
    obtain ⟨v64, e64, hE⟩ := nm_some hE
    refine g_iinc C0 1 [(1, .int v64), (0, .ref (ad 100)), (2, .int x2)] d_M_takeHabits_64 rfl (by rw [e64]; rfl) (by decide) rfl ?_
    refine g_goto C0 (tgt := 2) d_M_takeHabits_67 (by decide) ?_
    refine g_sub [1, 0] (L' := [(0, .ref (ad 100)), (1, .int v64)]) rfl ?_
    exact hk1 _ (Option.some.inj hE).symm
theorem w_M_takeHabits_L2 {p : Program} {l : Launch} {e : Env} {s : State} {m : MethodId} {args : Array Value} {below : List Frame} {meth : Method} {c : Code} {K : KT} {A : Nat → Prop} {Q : State → Prop} (C0 : Cx p s m args meth c prog_13_method_15_code "CanoeSidesModel" 3 K A) (hr : meth.sig.returnType = (Option.none : Option Jvm.ClassFile.FieldType)) {ad : Nat → Nat} (N : Nat) (x1 : Int32) (h : Hp) {x_ : (Int32 × Hp) ⊕ (Hp)} (hE : K_M_takeHabits_L2 N x1 h = some x_) (hk1 : ∀ z_, x_ = .inl z_ → G p l e rm_M_takeHabits s m args below meth c K A WM 3 0 0 Q 2 [(0, .ref (ad 100)), (1, .int z_.1)] [] ad z_.2) (hk3 : ∀ z_, x_ = .inr z_ → G p l e rm_M_takeHabits s m args below meth c K A WM 3 0 0 Q 70 [] [] ad z_) : G p l e rm_M_takeHabits s m args below meth c K A WM 3 0 0 Q 2 [(0, .ref (ad 100)), (1, .int x1)] [] ad h := by
  unfold K_M_takeHabits_L2 at hE
  refine g_iload_n C0 1 d_M_takeHabits_2 rfl rfl ?_
  refine g_bipush C0 (v := 8) d_M_takeHabits_3 (by decide) ?_
  have hB := ite_some hE
  refine g_icmp_ge C0 (tgt := 70) d_M_takeHabits_5 (by decide) (fun c_ => ?_) (fun c_ => ?_)
  · replace hE := hB.1 c_
    refine g_sub [] (L' := []) rfl ?_
    exact hk3 _ (Option.some.inj hE).symm
  · replace hE := hB.2 c_
    refine g_aload_n C0 0 d_M_takeHabits_8 rfl rfl ?_
    refine g_geti C0 CK_11 10 (by decide) t_1100 0 rfl rfl d_M_takeHabits_9 ?_
    have hB := ite_some hE
    refine g_if_ne C0 (tgt := 70) d_M_takeHabits_12 (by decide) (fun c_ => ?_) (fun c_ => ?_)
    · replace hE := hB.2 c_
      refine g_sub [] (L' := []) rfl ?_
      exact hk3 _ (Option.some.inj hE).symm
    · replace hE := hB.1 c_
      refine g_aload_n C0 0 d_M_takeHabits_15 rfl rfl ?_
      obtain ⟨v16, h16, z16, hE⟩ := bd2_some hE
      refine g_calli C0 nd_M [100, 101, 102, 103, 104, 105, 106, 107, 108, 109, 110, 111, 112, 113, 114, 115] rfl (sbW_self WM) (runV C0 (m_M_here l K ad h N z16) 0 rfl ⟨t_1205, t_1207, t_42, t_97, t_1208⟩ cd_M_here (by decide) 0 rfl rfl (sbW_self WM) nd_M rfl rfl (Nat.le_of_ble_eq_true rfl) d_M_takeHabits_16) ?_
      refine g_mx [100, 101, 102, 103, 104, 105, 106, 107, 108, 109, 110, 111, 112, 113, 114, 115] rfl ?_
      obtain ⟨v19, z19, hE⟩ := bd_some hE
      refine g_calliP C0 nd_M [] rfl (sb_E_M) (runS C0 (m_M_strokeOf l K ad h16 v16 z19) 1 ⟨t_1245, t_1246, t_97, t_1247⟩ cd_M_strokeOf (by decide) (sb_E_M) nd_E rfl rfl (Nat.le_of_ble_eq_true rfl) d_M_takeHabits_19) ?_
      refine g_istore_n C0 [(2, .int v19), (0, .ref (ad 100)), (1, .int x1)] d_M_takeHabits_22 rfl (by decide) rfl ?_
      refine g_aload_n C0 1 d_M_takeHabits_23 rfl rfl ?_
      refine g_iload_n C0 0 d_M_takeHabits_24 rfl rfl ?_
      have hB := ite_some hE
      refine g_if_lt C0 (tgt := 32) d_M_takeHabits_25 (by decide) (fun c_ => ?_) (fun c_ => ?_)
      · replace hE := hB.1 c_
        refine g_iconst C0 (v := 0) d_M_takeHabits_32 (by decide) ?_
        refine g_sub [1, 2, 0] (L' := [(0, .ref (ad 100)), (1, .int x1), (2, .int v19)]) rfl ?_
        exact w_M_takeHabits_J33 C0 hr N x1 v19 0 h16 hE hk1 hk3
      · replace hE := hB.2 c_
        refine g_iconst C0 (v := 1) d_M_takeHabits_28 (by decide) ?_
        refine g_goto C0 (tgt := 33) d_M_takeHabits_29 (by decide) ?_
        refine g_sub [1, 2, 0] (L' := [(0, .ref (ad 100)), (1, .int x1), (2, .int v19)]) rfl ?_
        exact w_M_takeHabits_J33 C0 hr N x1 v19 1 h16 hE hk1 hk3
theorem w_M_takeHabits {p : Program} {l : Launch} {e : Env} {s : State} {m : MethodId} {args : Array Value} {below : List Frame} {meth : Method} {c : Code} {K : KT} {A : Nat → Prop} (C0 : Cx p s m args meth c prog_13_method_15_code "CanoeSidesModel" 3 K A) (hr : meth.sig.returnType = (Option.none : Option Jvm.ClassFile.FieldType)) {ad : Nat → Nat} (N : Nat) (h : Hp) {res : Hp} (hE : K_M_takeHabits N h = some res) : G p l e rm_M_takeHabits s m args below meth c K A WM 3 0 0 (QV s args below K A WM 0 0 ad res) 0 [(0, .ref (ad 100))] [] ad h := by
  unfold K_M_takeHabits at hE
  refine g_iconst C0 (v := 0) d_M_takeHabits_0 (by decide) ?_
  refine g_istore_n C0 [(1, .int 0), (0, .ref (ad 100))] d_M_takeHabits_1 rfl (by decide) rfl ?_
  refine g_sub [1, 0] (L' := [(0, .ref (ad 100)), (1, .int 0)]) rfl ?_
  obtain ⟨t2, z2, hE⟩ := bd_some hE
  refine loopG (fun z_ : Int32 × Hp => K_M_takeHabits_L2 N z_.1 z_.2) (fun z_ : Int32 × Hp => G p l e rm_M_takeHabits s m args below meth c K A WM 3 0 0 _ 2 [(0, .ref (ad 100)), (1, .int z_.1)] [] ad z_.2) (fun z_ : Hp => G p l e rm_M_takeHabits s m args below meth c K A WM 3 0 0 _ 70 [] [] ad z_) (fun z_ x_ hz k1 k2 => w_M_takeHabits_L2 C0 hr N z_.1 z_.2 hz k1 k2) _ _ _ z2 ?_
  try dsimp only
  obtain rfl := Option.some.inj hE
  exact g_vret C0 hr d_M_takeHabits_70
theorem m_M_takeHabits (l : Launch) (K : KT) (ad : Nat → Nat) (h : Hp) (N : Nat) {res : Hp} (hE : K_M_takeHabits N h = some res) : ConV l y_M_takeHabits prog_13_method_15_code 3 (Option.none : Option Jvm.ClassFile.FieldType) rm_M_takeHabits K WM ad h [.ref (ad 100)] res := fun sz =>
  con_start [(0, .ref (ad 100))] (by decide +kernel) rfl (Nat.le_of_ble_eq_true rfl) (fun p e s m args below meth c C0 hr hnm hsz => w_M_takeHabits C0 hr N h hE)
abbrev y_M_wordOf : MethodName := ⟨"CanoeSidesModel", "wordOf", "(I)I"⟩
abbrev rm_M_wordOf : Room := { frames := 0, cells := 0, slots := 0, locals := 0 }
theorem cd_M_wordOf : cwd y_M_wordOf 1 := by decide +kernel
theorem d_M_wordOf_0 : decode prog_13_method_16_code 0 = .ok (.iload_n 0, 1) := by decide +kernel
theorem d_M_wordOf_1 : decode prog_13_method_16_code 1 = .ok (.bipush 114, 2) := by decide +kernel
theorem d_M_wordOf_3 : decode prog_13_method_16_code 3 = .ok (.if_icmp .ne 7, 3) := by decide +kernel
theorem d_M_wordOf_6 : decode prog_13_method_16_code 6 = .ok (.iconst 0, 1) := by decide +kernel
theorem d_M_wordOf_7 : decode prog_13_method_16_code 7 = .ok (.goto 54, 3) := by decide +kernel
theorem d_M_wordOf_10 : decode prog_13_method_16_code 10 = .ok (.iload_n 0, 1) := by decide +kernel
theorem d_M_wordOf_11 : decode prog_13_method_16_code 11 = .ok (.bipush 112, 2) := by decide +kernel
theorem d_M_wordOf_13 : decode prog_13_method_16_code 13 = .ok (.if_icmp .ne 7, 3) := by decide +kernel
theorem d_M_wordOf_16 : decode prog_13_method_16_code 16 = .ok (.iconst 1, 1) := by decide +kernel
theorem d_M_wordOf_17 : decode prog_13_method_16_code 17 = .ok (.goto 44, 3) := by decide +kernel
theorem d_M_wordOf_20 : decode prog_13_method_16_code 20 = .ok (.iload_n 0, 1) := by decide +kernel
theorem d_M_wordOf_21 : decode prog_13_method_16_code 21 = .ok (.bipush 98, 2) := by decide +kernel
theorem d_M_wordOf_23 : decode prog_13_method_16_code 23 = .ok (.if_icmp .ne 7, 3) := by decide +kernel
theorem d_M_wordOf_26 : decode prog_13_method_16_code 26 = .ok (.iconst 2, 1) := by decide +kernel
theorem d_M_wordOf_27 : decode prog_13_method_16_code 27 = .ok (.goto 34, 3) := by decide +kernel
theorem d_M_wordOf_30 : decode prog_13_method_16_code 30 = .ok (.iload_n 0, 1) := by decide +kernel
theorem d_M_wordOf_31 : decode prog_13_method_16_code 31 = .ok (.bipush 103, 2) := by decide +kernel
theorem d_M_wordOf_33 : decode prog_13_method_16_code 33 = .ok (.if_icmp .ne 7, 3) := by decide +kernel
theorem d_M_wordOf_36 : decode prog_13_method_16_code 36 = .ok (.iconst 3, 1) := by decide +kernel
theorem d_M_wordOf_37 : decode prog_13_method_16_code 37 = .ok (.goto 24, 3) := by decide +kernel
theorem d_M_wordOf_40 : decode prog_13_method_16_code 40 = .ok (.iload_n 0, 1) := by decide +kernel
theorem d_M_wordOf_41 : decode prog_13_method_16_code 41 = .ok (.bipush 119, 2) := by decide +kernel
theorem d_M_wordOf_43 : decode prog_13_method_16_code 43 = .ok (.if_icmp .ne 7, 3) := by decide +kernel
theorem d_M_wordOf_46 : decode prog_13_method_16_code 46 = .ok (.iconst 4, 1) := by decide +kernel
theorem d_M_wordOf_47 : decode prog_13_method_16_code 47 = .ok (.goto 14, 3) := by decide +kernel
theorem d_M_wordOf_50 : decode prog_13_method_16_code 50 = .ok (.iload_n 0, 1) := by decide +kernel
theorem d_M_wordOf_51 : decode prog_13_method_16_code 51 = .ok (.bipush 104, 2) := by decide +kernel
theorem d_M_wordOf_53 : decode prog_13_method_16_code 53 = .ok (.if_icmp .ne 7, 3) := by decide +kernel
theorem d_M_wordOf_56 : decode prog_13_method_16_code 56 = .ok (.iconst 5, 1) := by decide +kernel
theorem d_M_wordOf_57 : decode prog_13_method_16_code 57 = .ok (.goto 4, 3) := by decide +kernel
theorem d_M_wordOf_60 : decode prog_13_method_16_code 60 = .ok (.iconst (-1), 1) := by decide +kernel
theorem d_M_wordOf_61 : decode prog_13_method_16_code 61 = .ok (.ireturn, 1) := by decide +kernel
theorem w_M_wordOf {p : Program} {l : Launch} {e : Env} {s : State} {m : MethodId} {args : Array Value} {below : List Frame} {meth : Method} {c : Code} {K : KT} {A : Nat → Prop} (C0 : Cx p s m args meth c prog_13_method_16_code "CanoeSidesModel" 1 K A) (hr : meth.sig.returnType = (Option.some Jvm.ClassFile.FieldType.int)) {ad : Nat → Nat} (a0 : Int32) (h : Hp) {res : Int32} (hE : K_M_wordOf a0 = some res) : G p l e rm_M_wordOf s m args below meth c K A WE 1 0 0 (QI s args below K A WE 0 0 ad res h) 0 [(0, .int a0)] [] ad h := by
  unfold K_M_wordOf at hE
  refine g_iload_n C0 0 d_M_wordOf_0 rfl rfl ?_
  refine g_bipush C0 (v := 114) d_M_wordOf_1 (by decide) ?_
  have hB := ite_some hE
  refine g_icmp_ne C0 (tgt := 10) d_M_wordOf_3 (by decide) (fun c_ => ?_) (fun c_ => ?_)
  · replace hE := hB.2 c_
    refine g_iload_n C0 0 d_M_wordOf_10 rfl rfl ?_
    refine g_bipush C0 (v := 112) d_M_wordOf_11 (by decide) ?_
    have hB := ite_some hE
    refine g_icmp_ne C0 (tgt := 20) d_M_wordOf_13 (by decide) (fun c_ => ?_) (fun c_ => ?_)
    · replace hE := hB.2 c_
      refine g_iload_n C0 0 d_M_wordOf_20 rfl rfl ?_
      refine g_bipush C0 (v := 98) d_M_wordOf_21 (by decide) ?_
      have hB := ite_some hE
      refine g_icmp_ne C0 (tgt := 30) d_M_wordOf_23 (by decide) (fun c_ => ?_) (fun c_ => ?_)
      · replace hE := hB.2 c_
        refine g_iload_n C0 0 d_M_wordOf_30 rfl rfl ?_
        refine g_bipush C0 (v := 103) d_M_wordOf_31 (by decide) ?_
        have hB := ite_some hE
        refine g_icmp_ne C0 (tgt := 40) d_M_wordOf_33 (by decide) (fun c_ => ?_) (fun c_ => ?_)
        · replace hE := hB.2 c_
          refine g_iload_n C0 0 d_M_wordOf_40 rfl rfl ?_
          refine g_bipush C0 (v := 119) d_M_wordOf_41 (by decide) ?_
          have hB := ite_some hE
          refine g_icmp_ne C0 (tgt := 50) d_M_wordOf_43 (by decide) (fun c_ => ?_) (fun c_ => ?_)
          · replace hE := hB.2 c_
            refine g_iload_n C0 0 d_M_wordOf_50 rfl rfl ?_
            refine g_bipush C0 (v := 104) d_M_wordOf_51 (by decide) ?_
            have hB := ite_some hE
            refine g_icmp_ne C0 (tgt := 60) d_M_wordOf_53 (by decide) (fun c_ => ?_) (fun c_ => ?_)
            · replace hE := hB.2 c_
              refine g_iconst C0 (v := (-1)) d_M_wordOf_60 (by decide) ?_
              obtain rfl := Option.some.inj hE
              exact g_iret C0 hr d_M_wordOf_61
            · replace hE := hB.1 c_
              refine g_iconst C0 (v := 5) d_M_wordOf_56 (by decide) ?_
              refine g_goto C0 (tgt := 61) d_M_wordOf_57 (by decide) ?_
              obtain rfl := Option.some.inj hE
              exact g_iret C0 hr d_M_wordOf_61
          · replace hE := hB.1 c_
            refine g_iconst C0 (v := 4) d_M_wordOf_46 (by decide) ?_
            refine g_goto C0 (tgt := 61) d_M_wordOf_47 (by decide) ?_
            obtain rfl := Option.some.inj hE
            exact g_iret C0 hr d_M_wordOf_61
        · replace hE := hB.1 c_
          refine g_iconst C0 (v := 3) d_M_wordOf_36 (by decide) ?_
          refine g_goto C0 (tgt := 61) d_M_wordOf_37 (by decide) ?_
          obtain rfl := Option.some.inj hE
          exact g_iret C0 hr d_M_wordOf_61
      · replace hE := hB.1 c_
        refine g_iconst C0 (v := 2) d_M_wordOf_26 (by decide) ?_
        refine g_goto C0 (tgt := 61) d_M_wordOf_27 (by decide) ?_
        obtain rfl := Option.some.inj hE
        exact g_iret C0 hr d_M_wordOf_61
    · replace hE := hB.1 c_
      refine g_iconst C0 (v := 1) d_M_wordOf_16 (by decide) ?_
      refine g_goto C0 (tgt := 61) d_M_wordOf_17 (by decide) ?_
      obtain rfl := Option.some.inj hE
      exact g_iret C0 hr d_M_wordOf_61
  · replace hE := hB.1 c_
    refine g_iconst C0 (v := 0) d_M_wordOf_6 (by decide) ?_
    refine g_goto C0 (tgt := 61) d_M_wordOf_7 (by decide) ?_
    obtain rfl := Option.some.inj hE
    exact g_iret C0 hr d_M_wordOf_61
theorem m_M_wordOf (l : Launch) (K : KT) (ad : Nat → Nat) (h : Hp) (a0 : Int32) {res : Int32} (hE : K_M_wordOf a0 = some res) : ConI l y_M_wordOf prog_13_method_16_code 1 (Option.some Jvm.ClassFile.FieldType.int) rm_M_wordOf K WE ad h [.int a0] res h := fun sz =>
  con_start [(0, .int a0)] (by decide +kernel) rfl (Nat.le_of_ble_eq_true rfl) (fun p e s m args below meth c C0 hr hnm hsz => w_M_wordOf C0 hr a0 h hE)
abbrev y_M_takeClause : MethodName := ⟨"CanoeSidesModel", "takeClause", "()V"⟩
abbrev rm_M_takeClause : Room := { frames := 3, cells := 0, slots := 0, locals := 76 }
theorem cd_M_takeClause : cwd y_M_takeClause 0 := by decide +kernel
theorem d_M_takeClause_0 : decode prog_13_method_17_code 0 = .ok (.aload_n 0, 1) := by decide +kernel
theorem d_M_takeClause_1 : decode prog_13_method_17_code 1 = .ok (.invokevirtual 82, 3) := by decide +kernel
theorem d_M_takeClause_4 : decode prog_13_method_17_code 4 = .ok (.invokestatic 109, 3) := by decide +kernel
theorem d_M_takeClause_7 : decode prog_13_method_17_code 7 = .ok (.istore_n 1, 1) := by decide +kernel
theorem d_M_takeClause_8 : decode prog_13_method_17_code 8 = .ok (.aload_n 0, 1) := by decide +kernel
theorem d_M_takeClause_9 : decode prog_13_method_17_code 9 = .ok (.getfield 76, 3) := by decide +kernel
theorem d_M_takeClause_12 : decode prog_13_method_17_code 12 = .ok (.istore_n 2, 1) := by decide +kernel
theorem d_M_takeClause_13 : decode prog_13_method_17_code 13 = .ok (.aload_n 0, 1) := by decide +kernel
theorem d_M_takeClause_14 : decode prog_13_method_17_code 14 = .ok (.dup, 1) := by decide +kernel
theorem d_M_takeClause_15 : decode prog_13_method_17_code 15 = .ok (.getfield 76, 3) := by decide +kernel
theorem d_M_takeClause_18 : decode prog_13_method_17_code 18 = .ok (.iconst 1, 1) := by decide +kernel
theorem d_M_takeClause_19 : decode prog_13_method_17_code 19 = .ok (.iadd, 1) := by decide +kernel
theorem d_M_takeClause_20 : decode prog_13_method_17_code 20 = .ok (.putfield 76, 3) := by decide +kernel
theorem d_M_takeClause_23 : decode prog_13_method_17_code 23 = .ok (.aload_n 0, 1) := by decide +kernel
theorem d_M_takeClause_24 : decode prog_13_method_17_code 24 = .ok (.iload_n 1, 1) := by decide +kernel
theorem d_M_takeClause_25 : decode prog_13_method_17_code 25 = .ok (.ifCond .eq 14, 3) := by decide +kernel
theorem d_M_takeClause_28 : decode prog_13_method_17_code 28 = .ok (.iload_n 1, 1) := by decide +kernel
theorem d_M_takeClause_29 : decode prog_13_method_17_code 29 = .ok (.ifCond .le 14, 3) := by decide +kernel
theorem d_M_takeClause_32 : decode prog_13_method_17_code 32 = .ok (.aload_n 0, 1) := by decide +kernel
theorem d_M_takeClause_33 : decode prog_13_method_17_code 33 = .ok (.getfield 112, 3) := by decide +kernel
theorem d_M_takeClause_36 : decode prog_13_method_17_code 36 = .ok (.ifCond .le 7, 3) := by decide +kernel
theorem d_M_takeClause_39 : decode prog_13_method_17_code 39 = .ok (.iconst 1, 1) := by decide +kernel
theorem d_M_takeClause_40 : decode prog_13_method_17_code 40 = .ok (.goto 4, 3) := by decide +kernel
theorem d_M_takeClause_43 : decode prog_13_method_17_code 43 = .ok (.iconst 0, 1) := by decide +kernel
theorem d_M_takeClause_44 : decode prog_13_method_17_code 44 = .ok (.iconst 1, 1) := by decide +kernel
theorem d_M_takeClause_45 : decode prog_13_method_17_code 45 = .ok (.iload_n 2, 1) := by decide +kernel
theorem d_M_takeClause_46 : decode prog_13_method_17_code 46 = .ok (.invokevirtual 93, 3) := by decide +kernel
theorem d_M_takeClause_49 : decode prog_13_method_17_code 49 = .ok (.ifCond .eq 28, 3) := by decide +kernel
theorem d_M_takeClause_52 : decode prog_13_method_17_code 52 = .ok (.aload_n 0, 1) := by decide +kernel
theorem d_M_takeClause_53 : decode prog_13_method_17_code 53 = .ok (.aload_n 0, 1) := by decide +kernel
theorem d_M_takeClause_54 : decode prog_13_method_17_code 54 = .ok (.getfield 112, 3) := by decide +kernel
theorem d_M_takeClause_57 : decode prog_13_method_17_code 57 = .ok (.iload_n 1, 1) := by decide +kernel
theorem d_M_takeClause_58 : decode prog_13_method_17_code 58 = .ok (.invokestatic 115, 3) := by decide +kernel
theorem d_M_takeClause_61 : decode prog_13_method_17_code 61 = .ok (.ifCond .ne 7, 3) := by decide +kernel
theorem d_M_takeClause_64 : decode prog_13_method_17_code 64 = .ok (.iconst 1, 1) := by decide +kernel
theorem d_M_takeClause_65 : decode prog_13_method_17_code 65 = .ok (.goto 4, 3) := by decide +kernel
theorem d_M_takeClause_68 : decode prog_13_method_17_code 68 = .ok (.iconst 0, 1) := by decide +kernel
theorem d_M_takeClause_69 : decode prog_13_method_17_code 69 = .ok (.iconst 3, 1) := by decide +kernel
theorem d_M_takeClause_70 : decode prog_13_method_17_code 70 = .ok (.iload_n 2, 1) := by decide +kernel
theorem d_M_takeClause_71 : decode prog_13_method_17_code 71 = .ok (.invokevirtual 93, 3) := by decide +kernel
theorem d_M_takeClause_74 : decode prog_13_method_17_code 74 = .ok (.ifCond .ne 4, 3) := by decide +kernel
theorem d_M_takeClause_77 : decode prog_13_method_17_code 77 = .ok (.return_, 1) := by decide +kernel
theorem d_M_takeClause_78 : decode prog_13_method_17_code 78 = .ok (.aload_n 0, 1) := by decide +kernel
theorem d_M_takeClause_79 : decode prog_13_method_17_code 79 = .ok (.dup, 1) := by decide +kernel
theorem d_M_takeClause_80 : decode prog_13_method_17_code 80 = .ok (.getfield 112, 3) := by decide +kernel
theorem d_M_takeClause_83 : decode prog_13_method_17_code 83 = .ok (.iconst 1, 1) := by decide +kernel
theorem d_M_takeClause_84 : decode prog_13_method_17_code 84 = .ok (.iload_n 1, 1) := by decide +kernel
theorem d_M_takeClause_85 : decode prog_13_method_17_code 85 = .ok (.ishl, 1) := by decide +kernel
theorem d_M_takeClause_86 : decode prog_13_method_17_code 86 = .ok (.ior, 1) := by decide +kernel
theorem d_M_takeClause_87 : decode prog_13_method_17_code 87 = .ok (.putfield 112, 3) := by decide +kernel
theorem d_M_takeClause_90 : decode prog_13_method_17_code 90 = .ok (.iload_n 1, 1) := by decide +kernel
theorem d_M_takeClause_91 : decode prog_13_method_17_code 91 = .ok (.ifCond .ne 10, 3) := by decide +kernel
theorem d_M_takeClause_94 : decode prog_13_method_17_code 94 = .ok (.aload_n 0, 1) := by decide +kernel
theorem d_M_takeClause_95 : decode prog_13_method_17_code 95 = .ok (.invokevirtual 119, 3) := by decide +kernel
theorem d_M_takeClause_98 : decode prog_13_method_17_code 98 = .ok (.goto 172, 3) := by decide +kernel
theorem d_M_takeClause_101 : decode prog_13_method_17_code 101 = .ok (.iload_n 1, 1) := by decide +kernel
theorem d_M_takeClause_102 : decode prog_13_method_17_code 102 = .ok (.iconst 1, 1) := by decide +kernel
theorem d_M_takeClause_103 : decode prog_13_method_17_code 103 = .ok (.if_icmp .ne 62, 3) := by decide +kernel
theorem d_M_takeClause_106 : decode prog_13_method_17_code 106 = .ok (.aload_n 0, 1) := by decide +kernel
theorem d_M_takeClause_107 : decode prog_13_method_17_code 107 = .ok (.getfield 20, 3) := by decide +kernel
theorem d_M_takeClause_110 : decode prog_13_method_17_code 110 = .ok (.bipush 14, 2) := by decide +kernel
theorem d_M_takeClause_112 : decode prog_13_method_17_code 112 = .ok (.aload_n 0, 1) := by decide +kernel
theorem d_M_takeClause_113 : decode prog_13_method_17_code 113 = .ok (.iconst 1, 1) := by decide +kernel
theorem d_M_takeClause_114 : decode prog_13_method_17_code 114 = .ok (.bipush 9, 2) := by decide +kernel
theorem d_M_takeClause_116 : decode prog_13_method_17_code 116 = .ok (.invokevirtual 98, 3) := by decide +kernel
theorem d_M_takeClause_119 : decode prog_13_method_17_code 119 = .ok (.iastore, 1) := by decide +kernel
theorem d_M_takeClause_120 : decode prog_13_method_17_code 120 = .ok (.aload_n 0, 1) := by decide +kernel
theorem d_M_takeClause_121 : decode prog_13_method_17_code 121 = .ok (.getfield 20, 3) := by decide +kernel
theorem d_M_takeClause_124 : decode prog_13_method_17_code 124 = .ok (.bipush 15, 2) := by decide +kernel
theorem d_M_takeClause_126 : decode prog_13_method_17_code 126 = .ok (.aload_n 0, 1) := by decide +kernel
theorem d_M_takeClause_127 : decode prog_13_method_17_code 127 = .ok (.iconst 1, 1) := by decide +kernel
theorem d_M_takeClause_128 : decode prog_13_method_17_code 128 = .ok (.bipush 9, 2) := by decide +kernel
theorem d_M_takeClause_130 : decode prog_13_method_17_code 130 = .ok (.invokevirtual 98, 3) := by decide +kernel
theorem d_M_takeClause_133 : decode prog_13_method_17_code 133 = .ok (.iastore, 1) := by decide +kernel
theorem d_M_takeClause_134 : decode prog_13_method_17_code 134 = .ok (.aload_n 0, 1) := by decide +kernel
theorem d_M_takeClause_135 : decode prog_13_method_17_code 135 = .ok (.getfield 20, 3) := by decide +kernel
theorem d_M_takeClause_138 : decode prog_13_method_17_code 138 = .ok (.bipush 16, 2) := by decide +kernel
theorem d_M_takeClause_140 : decode prog_13_method_17_code 140 = .ok (.aload_n 0, 1) := by decide +kernel
theorem d_M_takeClause_141 : decode prog_13_method_17_code 141 = .ok (.iconst 1, 1) := by decide +kernel
theorem d_M_takeClause_142 : decode prog_13_method_17_code 142 = .ok (.bipush 20, 2) := by decide +kernel
theorem d_M_takeClause_144 : decode prog_13_method_17_code 144 = .ok (.invokevirtual 98, 3) := by decide +kernel
theorem d_M_takeClause_147 : decode prog_13_method_17_code 147 = .ok (.iastore, 1) := by decide +kernel
theorem d_M_takeClause_148 : decode prog_13_method_17_code 148 = .ok (.aload_n 0, 1) := by decide +kernel
theorem d_M_takeClause_149 : decode prog_13_method_17_code 149 = .ok (.getfield 20, 3) := by decide +kernel
theorem d_M_takeClause_152 : decode prog_13_method_17_code 152 = .ok (.bipush 17, 2) := by decide +kernel
theorem d_M_takeClause_154 : decode prog_13_method_17_code 154 = .ok (.aload_n 0, 1) := by decide +kernel
theorem d_M_takeClause_155 : decode prog_13_method_17_code 155 = .ok (.iconst 1, 1) := by decide +kernel
theorem d_M_takeClause_156 : decode prog_13_method_17_code 156 = .ok (.bipush 20, 2) := by decide +kernel
theorem d_M_takeClause_158 : decode prog_13_method_17_code 158 = .ok (.invokevirtual 98, 3) := by decide +kernel
theorem d_M_takeClause_161 : decode prog_13_method_17_code 161 = .ok (.iastore, 1) := by decide +kernel
theorem d_M_takeClause_162 : decode prog_13_method_17_code 162 = .ok (.goto 108, 3) := by decide +kernel
theorem d_M_takeClause_165 : decode prog_13_method_17_code 165 = .ok (.iload_n 1, 1) := by decide +kernel
theorem d_M_takeClause_166 : decode prog_13_method_17_code 166 = .ok (.iconst 2, 1) := by decide +kernel
theorem d_M_takeClause_167 : decode prog_13_method_17_code 167 = .ok (.if_icmp .ne 31, 3) := by decide +kernel
theorem d_M_takeClause_170 : decode prog_13_method_17_code 170 = .ok (.aload_n 0, 1) := by decide +kernel
theorem d_M_takeClause_171 : decode prog_13_method_17_code 171 = .ok (.getfield 20, 3) := by decide +kernel
theorem d_M_takeClause_174 : decode prog_13_method_17_code 174 = .ok (.bipush 18, 2) := by decide +kernel
theorem d_M_takeClause_176 : decode prog_13_method_17_code 176 = .ok (.aload_n 0, 1) := by decide +kernel
theorem d_M_takeClause_177 : decode prog_13_method_17_code 177 = .ok (.invokevirtual 122, 3) := by decide +kernel
theorem d_M_takeClause_180 : decode prog_13_method_17_code 180 = .ok (.iastore, 1) := by decide +kernel
theorem d_M_takeClause_181 : decode prog_13_method_17_code 181 = .ok (.aload_n 0, 1) := by decide +kernel
theorem d_M_takeClause_182 : decode prog_13_method_17_code 182 = .ok (.getfield 20, 3) := by decide +kernel
theorem d_M_takeClause_185 : decode prog_13_method_17_code 185 = .ok (.bipush 19, 2) := by decide +kernel
theorem d_M_takeClause_187 : decode prog_13_method_17_code 187 = .ok (.aload_n 0, 1) := by decide +kernel
theorem d_M_takeClause_188 : decode prog_13_method_17_code 188 = .ok (.iconst 0, 1) := by decide +kernel
theorem d_M_takeClause_189 : decode prog_13_method_17_code 189 = .ok (.bipush 7, 2) := by decide +kernel
theorem d_M_takeClause_191 : decode prog_13_method_17_code 191 = .ok (.invokevirtual 98, 3) := by decide +kernel
theorem d_M_takeClause_194 : decode prog_13_method_17_code 194 = .ok (.iastore, 1) := by decide +kernel
theorem d_M_takeClause_195 : decode prog_13_method_17_code 195 = .ok (.goto 75, 3) := by decide +kernel
theorem d_M_takeClause_198 : decode prog_13_method_17_code 198 = .ok (.iload_n 1, 1) := by decide +kernel
theorem d_M_takeClause_199 : decode prog_13_method_17_code 199 = .ok (.iconst 3, 1) := by decide +kernel
theorem d_M_takeClause_200 : decode prog_13_method_17_code 200 = .ok (.if_icmp .ne 31, 3) := by decide +kernel
theorem d_M_takeClause_203 : decode prog_13_method_17_code 203 = .ok (.aload_n 0, 1) := by decide +kernel
theorem d_M_takeClause_204 : decode prog_13_method_17_code 204 = .ok (.getfield 20, 3) := by decide +kernel
theorem d_M_takeClause_207 : decode prog_13_method_17_code 207 = .ok (.bipush 20, 2) := by decide +kernel
theorem d_M_takeClause_209 : decode prog_13_method_17_code 209 = .ok (.aload_n 0, 1) := by decide +kernel
theorem d_M_takeClause_210 : decode prog_13_method_17_code 210 = .ok (.invokevirtual 122, 3) := by decide +kernel
theorem d_M_takeClause_213 : decode prog_13_method_17_code 213 = .ok (.iastore, 1) := by decide +kernel
theorem d_M_takeClause_214 : decode prog_13_method_17_code 214 = .ok (.aload_n 0, 1) := by decide +kernel
theorem d_M_takeClause_215 : decode prog_13_method_17_code 215 = .ok (.getfield 20, 3) := by decide +kernel
theorem d_M_takeClause_218 : decode prog_13_method_17_code 218 = .ok (.bipush 21, 2) := by decide +kernel
theorem d_M_takeClause_220 : decode prog_13_method_17_code 220 = .ok (.aload_n 0, 1) := by decide +kernel
theorem d_M_takeClause_221 : decode prog_13_method_17_code 221 = .ok (.iconst 0, 1) := by decide +kernel
theorem d_M_takeClause_222 : decode prog_13_method_17_code 222 = .ok (.bipush 8, 2) := by decide +kernel
theorem d_M_takeClause_224 : decode prog_13_method_17_code 224 = .ok (.invokevirtual 98, 3) := by decide +kernel
theorem d_M_takeClause_227 : decode prog_13_method_17_code 227 = .ok (.iastore, 1) := by decide +kernel
theorem d_M_takeClause_228 : decode prog_13_method_17_code 228 = .ok (.goto 42, 3) := by decide +kernel
theorem d_M_takeClause_231 : decode prog_13_method_17_code 231 = .ok (.iload_n 1, 1) := by decide +kernel
theorem d_M_takeClause_232 : decode prog_13_method_17_code 232 = .ok (.iconst 4, 1) := by decide +kernel
theorem d_M_takeClause_233 : decode prog_13_method_17_code 233 = .ok (.if_icmp .ne 33, 3) := by decide +kernel
theorem d_M_takeClause_236 : decode prog_13_method_17_code 236 = .ok (.aload_n 0, 1) := by decide +kernel
theorem d_M_takeClause_237 : decode prog_13_method_17_code 237 = .ok (.getfield 20, 3) := by decide +kernel
theorem d_M_takeClause_240 : decode prog_13_method_17_code 240 = .ok (.bipush 22, 2) := by decide +kernel
theorem d_M_takeClause_242 : decode prog_13_method_17_code 242 = .ok (.aload_n 0, 1) := by decide +kernel
theorem d_M_takeClause_243 : decode prog_13_method_17_code 243 = .ok (.iconst 0, 1) := by decide +kernel
theorem d_M_takeClause_244 : decode prog_13_method_17_code 244 = .ok (.iconst 3, 1) := by decide +kernel
theorem d_M_takeClause_245 : decode prog_13_method_17_code 245 = .ok (.invokevirtual 98, 3) := by decide +kernel
theorem d_M_takeClause_248 : decode prog_13_method_17_code 248 = .ok (.iastore, 1) := by decide +kernel
theorem d_M_takeClause_249 : decode prog_13_method_17_code 249 = .ok (.aload_n 0, 1) := by decide +kernel
theorem d_M_takeClause_250 : decode prog_13_method_17_code 250 = .ok (.getfield 20, 3) := by decide +kernel
theorem d_M_takeClause_253 : decode prog_13_method_17_code 253 = .ok (.bipush 23, 2) := by decide +kernel
theorem d_M_takeClause_255 : decode prog_13_method_17_code 255 = .ok (.aload_n 0, 1) := by decide +kernel
theorem d_M_takeClause_256 : decode prog_13_method_17_code 256 = .ok (.iconst 1, 1) := by decide +kernel
theorem d_M_takeClause_257 : decode prog_13_method_17_code 257 = .ok (.bipush 9, 2) := by decide +kernel
theorem d_M_takeClause_259 : decode prog_13_method_17_code 259 = .ok (.invokevirtual 98, 3) := by decide +kernel
theorem d_M_takeClause_262 : decode prog_13_method_17_code 262 = .ok (.iastore, 1) := by decide +kernel
theorem d_M_takeClause_263 : decode prog_13_method_17_code 263 = .ok (.goto 7, 3) := by decide +kernel
theorem d_M_takeClause_266 : decode prog_13_method_17_code 266 = .ok (.aload_n 0, 1) := by decide +kernel
theorem d_M_takeClause_267 : decode prog_13_method_17_code 267 = .ok (.invokevirtual 125, 3) := by decide +kernel
theorem d_M_takeClause_270 : decode prog_13_method_17_code 270 = .ok (.return_, 1) := by decide +kernel
theorem w_M_takeClause_J69 {p : Program} {l : Launch} {e : Env} {s : State} {m : MethodId} {args : Array Value} {below : List Frame} {meth : Method} {c : Code} {K : KT} {A : Nat → Prop} (C0 : Cx p s m args meth c prog_13_method_17_code "CanoeSidesModel" 3 K A) (hr : meth.sig.returnType = (Option.none : Option Jvm.ClassFile.FieldType)) {ad : Nat → Nat} (N : Nat) (x1 : Int32) (x2 : Int32) (y1 : Int32) (h : Hp) {res : Hp} (hE : K_M_takeClause_J69 N x1 x2 y1 h = some res) : G p l e rm_M_takeClause s m args below meth c K A WM 3 0 0 (QV s args below K A WM 0 0 ad res) 69 [(0, .ref (ad 100)), (1, .int x1), (2, .int x2)] [.int y1, .ref (ad 100)] ad h := by
  unfold K_M_takeClause_J69 at hE
  refine g_iconst C0 (v := 3) d_M_takeClause_69 (by decide) ?_
  refine g_iload_n C0 2 d_M_takeClause_70 rfl rfl ?_
  obtain ⟨v71, h71, z71, hE⟩ := bd2_some hE
  refine g_calli C0 nd_M [100, 101, 102, 103, 104, 105, 106, 107, 108, 109, 110, 111, 112, 113, 114, 115] rfl (sbW_self WM) (runV C0 (m_M_want l K ad h y1 3 x2 z71) 3 rfl ⟨t_1216, t_1218, t_44, t_97, t_1219⟩ cd_M_want (by decide) 0 rfl rfl (sbW_self WM) nd_M rfl rfl (Nat.le_of_ble_eq_true rfl) d_M_takeClause_71) ?_
  refine g_mx [100, 101, 102, 103, 104, 105, 106, 107, 108, 109, 110, 111, 112, 113, 114, 115] rfl ?_
  have hB := ite_some hE
  refine g_if_ne C0 (tgt := 78) d_M_takeClause_74 (by decide) (fun c_ => ?_) (fun c_ => ?_)
  · replace hE := hB.2 c_
    refine g_aload_n C0 0 d_M_takeClause_78 rfl rfl ?_
    refine g_dup C0 d_M_takeClause_79 rfl ?_
    refine g_geti C0 CK_11 5 (by decide) t_1095 0 rfl rfl d_M_takeClause_80 ?_
    refine g_iconst C0 (v := 1) d_M_takeClause_83 (by decide) ?_
    refine g_iload_n C0 1 d_M_takeClause_84 rfl rfl ?_
    refine g_ishl C0 d_M_takeClause_85 ?_
    refine g_ior C0 d_M_takeClause_86 ?_
    obtain ⟨h87, e87, hE⟩ := nm_some hE
    refine g_puti C0 CK_11 CT_11 5 (by decide) t_1095 rfl (by decide +kernel) nd_M 0 rfl rfl d_M_takeClause_87 ?_
    refine g_heap e87 ?_
    refine g_iload_n C0 1 d_M_takeClause_90 rfl rfl ?_
    have hB := ite_some hE
    refine g_if_ne C0 (tgt := 101) d_M_takeClause_91 (by decide) (fun c_ => ?_) (fun c_ => ?_)
    · replace hE := hB.2 c_
      refine g_iload_n C0 1 d_M_takeClause_101 rfl rfl ?_
      refine g_iconst C0 (v := 1) d_M_takeClause_102 (by decide) ?_
      have hB := ite_some hE
      refine g_icmp_ne C0 (tgt := 165) d_M_takeClause_103 (by decide) (fun c_ => ?_) (fun c_ => ?_)
      · replace hE := hB.2 c_
        refine g_iload_n C0 1 d_M_takeClause_165 rfl rfl ?_
        refine g_iconst C0 (v := 2) d_M_takeClause_166 (by decide) ?_
        have hB := ite_some hE
        refine g_icmp_ne C0 (tgt := 198) d_M_takeClause_167 (by decide) (fun c_ => ?_) (fun c_ => ?_)
        · replace hE := hB.2 c_
          refine g_iload_n C0 1 d_M_takeClause_198 rfl rfl ?_
          refine g_iconst C0 (v := 3) d_M_takeClause_199 (by decide) ?_
          have hB := ite_some hE
          refine g_icmp_ne C0 (tgt := 231) d_M_takeClause_200 (by decide) (fun c_ => ?_) (fun c_ => ?_)
          · replace hE := hB.2 c_
            refine g_iload_n C0 1 d_M_takeClause_231 rfl rfl ?_
            refine g_iconst C0 (v := 4) d_M_takeClause_232 (by decide) ?_
            have hB := ite_some hE
            refine g_icmp_ne C0 (tgt := 266) d_M_takeClause_233 (by decide) (fun c_ => ?_) (fun c_ => ?_)
            · replace hE := hB.2 c_
              refine g_aload_n C0 0 d_M_takeClause_266 rfl rfl ?_
              obtain ⟨h267, z267, hE⟩ := bd_some hE
              refine g_callv C0 nd_M [100, 101, 102, 103, 104, 105, 106, 107, 108, 109, 110, 111, 112, 113, 114, 115] rfl (sbW_self WM) (runV C0 (m_M_takeHabits l K ad h87 N z267) 0 rfl ⟨t_1241, t_1243, t_48, t_97, t_1244⟩ cd_M_takeHabits (by decide) 0 rfl rfl (sbW_self WM) nd_M rfl rfl (Nat.le_of_ble_eq_true rfl) d_M_takeClause_267) ?_
              refine g_mx [100, 101, 102, 103, 104, 105, 106, 107, 108, 109, 110, 111, 112, 113, 114, 115] rfl ?_
              obtain rfl := Option.some.inj hE
              exact g_vret C0 hr d_M_takeClause_270
            · replace hE := hB.1 c_
              refine g_aload_n C0 0 d_M_takeClause_236 rfl rfl ?_
              refine g_getr C0 CK_11 3 (by decide) t_1093 0 rfl rfl d_M_takeClause_237 ?_
              refine g_bipush C0 (v := 22) d_M_takeClause_240 (by decide) ?_
              refine g_aload_n C0 0 d_M_takeClause_242 rfl rfl ?_
              refine g_iconst C0 (v := 0) d_M_takeClause_243 (by decide) ?_
              refine g_iconst C0 (v := 3) d_M_takeClause_244 (by decide) ?_
              obtain ⟨v245, h245, z245, hE⟩ := bd2_some hE
              refine g_calli C0 nd_M [100, 101, 102, 103, 104, 105, 106, 107, 108, 109, 110, 111, 112, 113, 114, 115] rfl (sbW_self WM) (runV C0 (m_M_takeNumber l K ad h87 N 0 3 z245) 2 rfl ⟨t_1227, t_1229, t_46, t_97, t_1230⟩ cd_M_takeNumber (by decide) 0 rfl rfl (sbW_self WM) nd_M rfl rfl (Nat.le_of_ble_eq_true rfl) d_M_takeClause_245) ?_
              refine g_mx [100, 101, 102, 103, 104, 105, 106, 107, 108, 109, 110, 111, 112, 113, 114, 115] rfl ?_
              obtain ⟨q248, hE⟩ := sA_some hE
              obtain ⟨h248, e248, hE⟩ := nm_some hE
              refine g_iast C0 4 rfl nd_M q248 d_M_takeClause_248 ?_
              refine g_heap e248 ?_
              refine g_aload_n C0 0 d_M_takeClause_249 rfl rfl ?_
              refine g_getr C0 CK_11 3 (by decide) t_1093 0 rfl rfl d_M_takeClause_250 ?_
              refine g_bipush C0 (v := 23) d_M_takeClause_253 (by decide) ?_
              refine g_aload_n C0 0 d_M_takeClause_255 rfl rfl ?_
              refine g_iconst C0 (v := 1) d_M_takeClause_256 (by decide) ?_
              refine g_bipush C0 (v := 9) d_M_takeClause_257 (by decide) ?_
              obtain ⟨v259, h259, z259, hE⟩ := bd2_some hE
              refine g_calli C0 nd_M [100, 101, 102, 103, 104, 105, 106, 107, 108, 109, 110, 111, 112, 113, 114, 115] rfl (sbW_self WM) (runV C0 (m_M_takeNumber l K ad h248 N 1 9 z259) 2 rfl ⟨t_1227, t_1229, t_46, t_97, t_1230⟩ cd_M_takeNumber (by decide) 0 rfl rfl (sbW_self WM) nd_M rfl rfl (Nat.le_of_ble_eq_true rfl) d_M_takeClause_259) ?_
              refine g_mx [100, 101, 102, 103, 104, 105, 106, 107, 108, 109, 110, 111, 112, 113, 114, 115] rfl ?_
              obtain ⟨q262, hE⟩ := sA_some hE
              obtain ⟨h262, e262, hE⟩ := nm_some hE
              refine g_iast C0 4 rfl nd_M q262 d_M_takeClause_262 ?_
              refine g_heap e262 ?_
              refine g_goto C0 (tgt := 270) d_M_takeClause_263 (by decide) ?_
              obtain rfl := Option.some.inj hE
              exact g_vret C0 hr d_M_takeClause_270
          · replace hE := hB.1 c_
            refine g_aload_n C0 0 d_M_takeClause_203 rfl rfl ?_
            refine g_getr C0 CK_11 3 (by decide) t_1093 0 rfl rfl d_M_takeClause_204 ?_
            refine g_bipush C0 (v := 20) d_M_takeClause_207 (by decide) ?_
            refine g_aload_n C0 0 d_M_takeClause_209 rfl rfl ?_
            obtain ⟨v210, h210, z210, hE⟩ := bd2_some hE
            refine g_calli C0 nd_M [100, 101, 102, 103, 104, 105, 106, 107, 108, 109, 110, 111, 112, 113, 114, 115] rfl (sbW_self WM) (runV C0 (m_M_takeSquare l K ad h87 N z210) 0 rfl ⟨t_1237, t_1239, t_47, t_97, t_1240⟩ cd_M_takeSquare (by decide) 0 rfl rfl (sbW_self WM) nd_M rfl rfl (Nat.le_of_ble_eq_true rfl) d_M_takeClause_210) ?_
            refine g_mx [100, 101, 102, 103, 104, 105, 106, 107, 108, 109, 110, 111, 112, 113, 114, 115] rfl ?_
            obtain ⟨q213, hE⟩ := sA_some hE
            obtain ⟨h213, e213, hE⟩ := nm_some hE
            refine g_iast C0 4 rfl nd_M q213 d_M_takeClause_213 ?_
            refine g_heap e213 ?_
            refine g_aload_n C0 0 d_M_takeClause_214 rfl rfl ?_
            refine g_getr C0 CK_11 3 (by decide) t_1093 0 rfl rfl d_M_takeClause_215 ?_
            refine g_bipush C0 (v := 21) d_M_takeClause_218 (by decide) ?_
            refine g_aload_n C0 0 d_M_takeClause_220 rfl rfl ?_
            refine g_iconst C0 (v := 0) d_M_takeClause_221 (by decide) ?_
            refine g_bipush C0 (v := 8) d_M_takeClause_222 (by decide) ?_
            obtain ⟨v224, h224, z224, hE⟩ := bd2_some hE
            refine g_calli C0 nd_M [100, 101, 102, 103, 104, 105, 106, 107, 108, 109, 110, 111, 112, 113, 114, 115] rfl (sbW_self WM) (runV C0 (m_M_takeNumber l K ad h213 N 0 8 z224) 2 rfl ⟨t_1227, t_1229, t_46, t_97, t_1230⟩ cd_M_takeNumber (by decide) 0 rfl rfl (sbW_self WM) nd_M rfl rfl (Nat.le_of_ble_eq_true rfl) d_M_takeClause_224) ?_
            refine g_mx [100, 101, 102, 103, 104, 105, 106, 107, 108, 109, 110, 111, 112, 113, 114, 115] rfl ?_
            obtain ⟨q227, hE⟩ := sA_some hE
            obtain ⟨h227, e227, hE⟩ := nm_some hE
            refine g_iast C0 4 rfl nd_M q227 d_M_takeClause_227 ?_
            refine g_heap e227 ?_
            refine g_goto C0 (tgt := 270) d_M_takeClause_228 (by decide) ?_
            obtain rfl := Option.some.inj hE
            exact g_vret C0 hr d_M_takeClause_270
        · replace hE := hB.1 c_
          refine g_aload_n C0 0 d_M_takeClause_170 rfl rfl ?_
          refine g_getr C0 CK_11 3 (by decide) t_1093 0 rfl rfl d_M_takeClause_171 ?_
          refine g_bipush C0 (v := 18) d_M_takeClause_174 (by decide) ?_
          refine g_aload_n C0 0 d_M_takeClause_176 rfl rfl ?_
          obtain ⟨v177, h177, z177, hE⟩ := bd2_some hE
          refine g_calli C0 nd_M [100, 101, 102, 103, 104, 105, 106, 107, 108, 109, 110, 111, 112, 113, 114, 115] rfl (sbW_self WM) (runV C0 (m_M_takeSquare l K ad h87 N z177) 0 rfl ⟨t_1237, t_1239, t_47, t_97, t_1240⟩ cd_M_takeSquare (by decide) 0 rfl rfl (sbW_self WM) nd_M rfl rfl (Nat.le_of_ble_eq_true rfl) d_M_takeClause_177) ?_
          refine g_mx [100, 101, 102, 103, 104, 105, 106, 107, 108, 109, 110, 111, 112, 113, 114, 115] rfl ?_
          obtain ⟨q180, hE⟩ := sA_some hE
          obtain ⟨h180, e180, hE⟩ := nm_some hE
          refine g_iast C0 4 rfl nd_M q180 d_M_takeClause_180 ?_
          refine g_heap e180 ?_
          refine g_aload_n C0 0 d_M_takeClause_181 rfl rfl ?_
          refine g_getr C0 CK_11 3 (by decide) t_1093 0 rfl rfl d_M_takeClause_182 ?_
          refine g_bipush C0 (v := 19) d_M_takeClause_185 (by decide) ?_
          refine g_aload_n C0 0 d_M_takeClause_187 rfl rfl ?_
          refine g_iconst C0 (v := 0) d_M_takeClause_188 (by decide) ?_
          refine g_bipush C0 (v := 7) d_M_takeClause_189 (by decide) ?_
          obtain ⟨v191, h191, z191, hE⟩ := bd2_some hE
          refine g_calli C0 nd_M [100, 101, 102, 103, 104, 105, 106, 107, 108, 109, 110, 111, 112, 113, 114, 115] rfl (sbW_self WM) (runV C0 (m_M_takeNumber l K ad h180 N 0 7 z191) 2 rfl ⟨t_1227, t_1229, t_46, t_97, t_1230⟩ cd_M_takeNumber (by decide) 0 rfl rfl (sbW_self WM) nd_M rfl rfl (Nat.le_of_ble_eq_true rfl) d_M_takeClause_191) ?_
          refine g_mx [100, 101, 102, 103, 104, 105, 106, 107, 108, 109, 110, 111, 112, 113, 114, 115] rfl ?_
          obtain ⟨q194, hE⟩ := sA_some hE
          obtain ⟨h194, e194, hE⟩ := nm_some hE
          refine g_iast C0 4 rfl nd_M q194 d_M_takeClause_194 ?_
          refine g_heap e194 ?_
          refine g_goto C0 (tgt := 270) d_M_takeClause_195 (by decide) ?_
          obtain rfl := Option.some.inj hE
          exact g_vret C0 hr d_M_takeClause_270
      · replace hE := hB.1 c_
        refine g_aload_n C0 0 d_M_takeClause_106 rfl rfl ?_
        refine g_getr C0 CK_11 3 (by decide) t_1093 0 rfl rfl d_M_takeClause_107 ?_
        refine g_bipush C0 (v := 14) d_M_takeClause_110 (by decide) ?_
        refine g_aload_n C0 0 d_M_takeClause_112 rfl rfl ?_
        refine g_iconst C0 (v := 1) d_M_takeClause_113 (by decide) ?_
        refine g_bipush C0 (v := 9) d_M_takeClause_114 (by decide) ?_
        obtain ⟨v116, h116, z116, hE⟩ := bd2_some hE
        refine g_calli C0 nd_M [100, 101, 102, 103, 104, 105, 106, 107, 108, 109, 110, 111, 112, 113, 114, 115] rfl (sbW_self WM) (runV C0 (m_M_takeNumber l K ad h87 N 1 9 z116) 2 rfl ⟨t_1227, t_1229, t_46, t_97, t_1230⟩ cd_M_takeNumber (by decide) 0 rfl rfl (sbW_self WM) nd_M rfl rfl (Nat.le_of_ble_eq_true rfl) d_M_takeClause_116) ?_
        refine g_mx [100, 101, 102, 103, 104, 105, 106, 107, 108, 109, 110, 111, 112, 113, 114, 115] rfl ?_
        obtain ⟨q119, hE⟩ := sA_some hE
        obtain ⟨h119, e119, hE⟩ := nm_some hE
        refine g_iast C0 4 rfl nd_M q119 d_M_takeClause_119 ?_
        refine g_heap e119 ?_
        refine g_aload_n C0 0 d_M_takeClause_120 rfl rfl ?_
        refine g_getr C0 CK_11 3 (by decide) t_1093 0 rfl rfl d_M_takeClause_121 ?_
        refine g_bipush C0 (v := 15) d_M_takeClause_124 (by decide) ?_
        refine g_aload_n C0 0 d_M_takeClause_126 rfl rfl ?_
        refine g_iconst C0 (v := 1) d_M_takeClause_127 (by decide) ?_
        refine g_bipush C0 (v := 9) d_M_takeClause_128 (by decide) ?_
        obtain ⟨v130, h130, z130, hE⟩ := bd2_some hE
        refine g_calli C0 nd_M [100, 101, 102, 103, 104, 105, 106, 107, 108, 109, 110, 111, 112, 113, 114, 115] rfl (sbW_self WM) (runV C0 (m_M_takeNumber l K ad h119 N 1 9 z130) 2 rfl ⟨t_1227, t_1229, t_46, t_97, t_1230⟩ cd_M_takeNumber (by decide) 0 rfl rfl (sbW_self WM) nd_M rfl rfl (Nat.le_of_ble_eq_true rfl) d_M_takeClause_130) ?_
        refine g_mx [100, 101, 102, 103, 104, 105, 106, 107, 108, 109, 110, 111, 112, 113, 114, 115] rfl ?_
        obtain ⟨q133, hE⟩ := sA_some hE
        obtain ⟨h133, e133, hE⟩ := nm_some hE
        refine g_iast C0 4 rfl nd_M q133 d_M_takeClause_133 ?_
        refine g_heap e133 ?_
        refine g_aload_n C0 0 d_M_takeClause_134 rfl rfl ?_
        refine g_getr C0 CK_11 3 (by decide) t_1093 0 rfl rfl d_M_takeClause_135 ?_
        refine g_bipush C0 (v := 16) d_M_takeClause_138 (by decide) ?_
        refine g_aload_n C0 0 d_M_takeClause_140 rfl rfl ?_
        refine g_iconst C0 (v := 1) d_M_takeClause_141 (by decide) ?_
        refine g_bipush C0 (v := 20) d_M_takeClause_142 (by decide) ?_
        obtain ⟨v144, h144, z144, hE⟩ := bd2_some hE
        refine g_calli C0 nd_M [100, 101, 102, 103, 104, 105, 106, 107, 108, 109, 110, 111, 112, 113, 114, 115] rfl (sbW_self WM) (runV C0 (m_M_takeNumber l K ad h133 N 1 20 z144) 2 rfl ⟨t_1227, t_1229, t_46, t_97, t_1230⟩ cd_M_takeNumber (by decide) 0 rfl rfl (sbW_self WM) nd_M rfl rfl (Nat.le_of_ble_eq_true rfl) d_M_takeClause_144) ?_
        refine g_mx [100, 101, 102, 103, 104, 105, 106, 107, 108, 109, 110, 111, 112, 113, 114, 115] rfl ?_
        obtain ⟨q147, hE⟩ := sA_some hE
        obtain ⟨h147, e147, hE⟩ := nm_some hE
        refine g_iast C0 4 rfl nd_M q147 d_M_takeClause_147 ?_
        refine g_heap e147 ?_
        refine g_aload_n C0 0 d_M_takeClause_148 rfl rfl ?_
        refine g_getr C0 CK_11 3 (by decide) t_1093 0 rfl rfl d_M_takeClause_149 ?_
        refine g_bipush C0 (v := 17) d_M_takeClause_152 (by decide) ?_
        refine g_aload_n C0 0 d_M_takeClause_154 rfl rfl ?_
        refine g_iconst C0 (v := 1) d_M_takeClause_155 (by decide) ?_
        refine g_bipush C0 (v := 20) d_M_takeClause_156 (by decide) ?_
        obtain ⟨v158, h158, z158, hE⟩ := bd2_some hE
        refine g_calli C0 nd_M [100, 101, 102, 103, 104, 105, 106, 107, 108, 109, 110, 111, 112, 113, 114, 115] rfl (sbW_self WM) (runV C0 (m_M_takeNumber l K ad h147 N 1 20 z158) 2 rfl ⟨t_1227, t_1229, t_46, t_97, t_1230⟩ cd_M_takeNumber (by decide) 0 rfl rfl (sbW_self WM) nd_M rfl rfl (Nat.le_of_ble_eq_true rfl) d_M_takeClause_158) ?_
        refine g_mx [100, 101, 102, 103, 104, 105, 106, 107, 108, 109, 110, 111, 112, 113, 114, 115] rfl ?_
        obtain ⟨q161, hE⟩ := sA_some hE
        obtain ⟨h161, e161, hE⟩ := nm_some hE
        refine g_iast C0 4 rfl nd_M q161 d_M_takeClause_161 ?_
        refine g_heap e161 ?_
        refine g_goto C0 (tgt := 270) d_M_takeClause_162 (by decide) ?_
        obtain rfl := Option.some.inj hE
        exact g_vret C0 hr d_M_takeClause_270
    · replace hE := hB.1 c_
      refine g_aload_n C0 0 d_M_takeClause_94 rfl rfl ?_
      obtain ⟨h95, z95, hE⟩ := bd_some hE
      refine g_callv C0 nd_M [100, 101, 102, 103, 104, 105, 106, 107, 108, 109, 110, 111, 112, 113, 114, 115] rfl (sbW_self WM) (runV C0 (m_M_takeRiver l K ad h87 N z95) 0 rfl ⟨t_1223, t_1225, t_45, t_97, t_1226⟩ cd_M_takeRiver (by decide) 0 rfl rfl (sbW_self WM) nd_M rfl rfl (Nat.le_of_ble_eq_true rfl) d_M_takeClause_95) ?_
      refine g_mx [100, 101, 102, 103, 104, 105, 106, 107, 108, 109, 110, 111, 112, 113, 114, 115] rfl ?_
      refine g_goto C0 (tgt := 270) d_M_takeClause_98 (by decide) ?_
      obtain rfl := Option.some.inj hE
      exact g_vret C0 hr d_M_takeClause_270
  · replace hE := hB.1 c_
    obtain rfl := Option.some.inj hE
    exact g_vret C0 hr d_M_takeClause_77
theorem w_M_takeClause_J44 {p : Program} {l : Launch} {e : Env} {s : State} {m : MethodId} {args : Array Value} {below : List Frame} {meth : Method} {c : Code} {K : KT} {A : Nat → Prop} (C0 : Cx p s m args meth c prog_13_method_17_code "CanoeSidesModel" 3 K A) (hr : meth.sig.returnType = (Option.none : Option Jvm.ClassFile.FieldType)) {ad : Nat → Nat} (N : Nat) (x1 : Int32) (x2 : Int32) (y1 : Int32) (h : Hp) {res : Hp} (hE : K_M_takeClause_J44 N x1 x2 y1 h = some res) : G p l e rm_M_takeClause s m args below meth c K A WM 3 0 0 (QV s args below K A WM 0 0 ad res) 44 [(0, .ref (ad 100)), (1, .int x1), (2, .int x2)] [.int y1, .ref (ad 100)] ad h := by
  unfold K_M_takeClause_J44 at hE
  refine g_iconst C0 (v := 1) d_M_takeClause_44 (by decide) ?_
  refine g_iload_n C0 2 d_M_takeClause_45 rfl rfl ?_
  obtain ⟨v46, h46, z46, hE⟩ := bd2_some hE
  refine g_calli C0 nd_M [100, 101, 102, 103, 104, 105, 106, 107, 108, 109, 110, 111, 112, 113, 114, 115] rfl (sbW_self WM) (runV C0 (m_M_want l K ad h y1 1 x2 z46) 3 rfl ⟨t_1216, t_1218, t_44, t_97, t_1219⟩ cd_M_want (by decide) 0 rfl rfl (sbW_self WM) nd_M rfl rfl (Nat.le_of_ble_eq_true rfl) d_M_takeClause_46) ?_
  refine g_mx [100, 101, 102, 103, 104, 105, 106, 107, 108, 109, 110, 111, 112, 113, 114, 115] rfl ?_
  have hB := ite_some hE
  refine g_if_eq C0 (tgt := 77) d_M_takeClause_49 (by decide) (fun c_ => ?_) (fun c_ => ?_)
  · replace hE := hB.1 c_
    obtain rfl := Option.some.inj hE
    exact g_vret C0 hr d_M_takeClause_77
  · replace hE := hB.2 c_
    refine g_aload_n C0 0 d_M_takeClause_52 rfl rfl ?_
    refine g_aload_n C0 0 d_M_takeClause_53 rfl rfl ?_
    refine g_geti C0 CK_11 5 (by decide) t_1095 0 rfl rfl d_M_takeClause_54 ?_
    refine g_iload_n C0 1 d_M_takeClause_57 rfl rfl ?_
    obtain ⟨v58, z58, hE⟩ := bd_some hE
    refine g_calliP C0 nd_M [] rfl (sb_E_M) (runS C0 (m_M_has l K ad h46 (h46 100 5) x1 z58) 2 ⟨t_1220, t_1221, t_97, t_1222⟩ cd_M_has (by decide) (sb_E_M) nd_E rfl rfl (Nat.le_of_ble_eq_true rfl) d_M_takeClause_58) ?_
    have hB := ite_some hE
    refine g_if_ne C0 (tgt := 68) d_M_takeClause_61 (by decide) (fun c_ => ?_) (fun c_ => ?_)
    · replace hE := hB.2 c_
      refine g_iconst C0 (v := 0) d_M_takeClause_68 (by decide) ?_
      exact w_M_takeClause_J69 C0 hr N x1 x2 0 h46 hE
    · replace hE := hB.1 c_
      refine g_iconst C0 (v := 1) d_M_takeClause_64 (by decide) ?_
      refine g_goto C0 (tgt := 69) d_M_takeClause_65 (by decide) ?_
      exact w_M_takeClause_J69 C0 hr N x1 x2 1 h46 hE
theorem w_M_takeClause_J39 {p : Program} {l : Launch} {e : Env} {s : State} {m : MethodId} {args : Array Value} {below : List Frame} {meth : Method} {c : Code} {K : KT} {A : Nat → Prop} (C0 : Cx p s m args meth c prog_13_method_17_code "CanoeSidesModel" 3 K A) (hr : meth.sig.returnType = (Option.none : Option Jvm.ClassFile.FieldType)) {ad : Nat → Nat} (N : Nat) (x1 : Int32) (x2 : Int32) (h : Hp) {res : Hp} (hE : K_M_takeClause_J39 N x1 x2 h = some res) : G p l e rm_M_takeClause s m args below meth c K A WM 3 0 0 (QV s args below K A WM 0 0 ad res) 39 [(0, .ref (ad 100)), (1, .int x1), (2, .int x2)] [.ref (ad 100)] ad h := by
  unfold K_M_takeClause_J39 at hE
  refine g_iconst C0 (v := 1) d_M_takeClause_39 (by decide) ?_
  refine g_goto C0 (tgt := 44) d_M_takeClause_40 (by decide) ?_
  exact w_M_takeClause_J44 C0 hr N x1 x2 1 h hE
theorem w_M_takeClause_J43 {p : Program} {l : Launch} {e : Env} {s : State} {m : MethodId} {args : Array Value} {below : List Frame} {meth : Method} {c : Code} {K : KT} {A : Nat → Prop} (C0 : Cx p s m args meth c prog_13_method_17_code "CanoeSidesModel" 3 K A) (hr : meth.sig.returnType = (Option.none : Option Jvm.ClassFile.FieldType)) {ad : Nat → Nat} (N : Nat) (x1 : Int32) (x2 : Int32) (h : Hp) {res : Hp} (hE : K_M_takeClause_J43 N x1 x2 h = some res) : G p l e rm_M_takeClause s m args below meth c K A WM 3 0 0 (QV s args below K A WM 0 0 ad res) 43 [(0, .ref (ad 100)), (1, .int x1), (2, .int x2)] [.ref (ad 100)] ad h := by
  unfold K_M_takeClause_J43 at hE
  refine g_iconst C0 (v := 0) d_M_takeClause_43 (by decide) ?_
  exact w_M_takeClause_J44 C0 hr N x1 x2 0 h hE
theorem w_M_takeClause {p : Program} {l : Launch} {e : Env} {s : State} {m : MethodId} {args : Array Value} {below : List Frame} {meth : Method} {c : Code} {K : KT} {A : Nat → Prop} (C0 : Cx p s m args meth c prog_13_method_17_code "CanoeSidesModel" 3 K A) (hr : meth.sig.returnType = (Option.none : Option Jvm.ClassFile.FieldType)) {ad : Nat → Nat} (N : Nat) (h : Hp) {res : Hp} (hE : K_M_takeClause N h = some res) : G p l e rm_M_takeClause s m args below meth c K A WM 3 0 0 (QV s args below K A WM 0 0 ad res) 0 [(0, .ref (ad 100))] [] ad h := by
  unfold K_M_takeClause at hE
  refine g_aload_n C0 0 d_M_takeClause_0 rfl rfl ?_
  obtain ⟨v1, h1, z1, hE⟩ := bd2_some hE
  refine g_calli C0 nd_M [100, 101, 102, 103, 104, 105, 106, 107, 108, 109, 110, 111, 112, 113, 114, 115] rfl (sbW_self WM) (runV C0 (m_M_here l K ad h N z1) 0 rfl ⟨t_1205, t_1207, t_42, t_97, t_1208⟩ cd_M_here (by decide) 0 rfl rfl (sbW_self WM) nd_M rfl rfl (Nat.le_of_ble_eq_true rfl) d_M_takeClause_1) ?_
  refine g_mx [100, 101, 102, 103, 104, 105, 106, 107, 108, 109, 110, 111, 112, 113, 114, 115] rfl ?_
  obtain ⟨v4, z4, hE⟩ := bd_some hE
  refine g_calliP C0 nd_M [] rfl (sb_E_M) (runS C0 (m_M_wordOf l K ad h1 v1 z4) 1 ⟨t_1213, t_1214, t_97, t_1215⟩ cd_M_wordOf (by decide) (sb_E_M) nd_E rfl rfl (Nat.le_of_ble_eq_true rfl) d_M_takeClause_4) ?_
  refine g_istore_n C0 [(1, .int v4), (0, .ref (ad 100))] d_M_takeClause_7 rfl (by decide) rfl ?_
  refine g_aload_n C0 1 d_M_takeClause_8 rfl rfl ?_
  refine g_geti C0 CK_11 8 (by decide) t_1098 0 rfl rfl d_M_takeClause_9 ?_
  obtain ⟨v12, e12, hE⟩ := nm_some hE
  refine g_top e12 ?_
  refine g_istore_n C0 [(2, .int v12), (1, .int v4), (0, .ref (ad 100))] d_M_takeClause_12 rfl (by decide) rfl ?_
  refine g_aload_n C0 2 d_M_takeClause_13 rfl rfl ?_
  refine g_dup C0 d_M_takeClause_14 rfl ?_
  refine g_geti C0 CK_11 8 (by decide) t_1098 0 rfl rfl d_M_takeClause_15 ?_
  refine g_iconst C0 (v := 1) d_M_takeClause_18 (by decide) ?_
  refine g_iadd C0 d_M_takeClause_19 ?_
  obtain ⟨h20, e20, hE⟩ := nm_some hE
  refine g_puti C0 CK_11 CT_11 8 (by decide) t_1098 rfl (by decide +kernel) nd_M 0 rfl rfl d_M_takeClause_20 ?_
  refine g_heap e20 ?_
  refine g_aload_n C0 2 d_M_takeClause_23 rfl rfl ?_
  refine g_iload_n C0 1 d_M_takeClause_24 rfl rfl ?_
  have hB := ite_some hE
  refine g_if_eq C0 (tgt := 39) d_M_takeClause_25 (by decide) (fun c_ => ?_) (fun c_ => ?_)
  · replace hE := hB.1 c_
    refine g_sub [2, 1, 0] (L' := [(0, .ref (ad 100)), (1, .int v4), (2, .int v12)]) rfl ?_
    exact w_M_takeClause_J39 C0 hr N v4 v12 h20 hE
  · replace hE := hB.2 c_
    refine g_iload_n C0 1 d_M_takeClause_28 rfl rfl ?_
    have hB := ite_some hE
    refine g_if_le C0 (tgt := 43) d_M_takeClause_29 (by decide) (fun c_ => ?_) (fun c_ => ?_)
    · replace hE := hB.1 c_
      refine g_sub [2, 1, 0] (L' := [(0, .ref (ad 100)), (1, .int v4), (2, .int v12)]) rfl ?_
      exact w_M_takeClause_J43 C0 hr N v4 v12 h20 hE
    · replace hE := hB.2 c_
      refine g_aload_n C0 2 d_M_takeClause_32 rfl rfl ?_
      refine g_geti C0 CK_11 5 (by decide) t_1095 0 rfl rfl d_M_takeClause_33 ?_
      have hB := ite_some hE
      refine g_if_le C0 (tgt := 43) d_M_takeClause_36 (by decide) (fun c_ => ?_) (fun c_ => ?_)
      · replace hE := hB.1 c_
        refine g_sub [2, 1, 0] (L' := [(0, .ref (ad 100)), (1, .int v4), (2, .int v12)]) rfl ?_
        exact w_M_takeClause_J43 C0 hr N v4 v12 h20 hE
      · replace hE := hB.2 c_
        refine g_sub [2, 1, 0] (L' := [(0, .ref (ad 100)), (1, .int v4), (2, .int v12)]) rfl ?_
        exact w_M_takeClause_J39 C0 hr N v4 v12 h20 hE
theorem m_M_takeClause (l : Launch) (K : KT) (ad : Nat → Nat) (h : Hp) (N : Nat) {res : Hp} (hE : K_M_takeClause N h = some res) : ConV l y_M_takeClause prog_13_method_17_code 3 (Option.none : Option Jvm.ClassFile.FieldType) rm_M_takeClause K WM ad h [.ref (ad 100)] res := fun sz =>
  con_start [(0, .ref (ad 100))] (by decide +kernel) rfl (Nat.le_of_ble_eq_true rfl) (fun p e s m args below meth c C0 hr hnm hsz => w_M_takeClause C0 hr N h hE)
abbrev y_M_squares : MethodName := ⟨"CanoeSidesModel", "squares", "(I)I"⟩
abbrev rm_M_squares : Room := { frames := 0, cells := 0, slots := 0, locals := 0 }
theorem cd_M_squares : cwd y_M_squares 1 := by decide +kernel
theorem d_M_squares_0 : decode prog_13_method_20_code 0 = .ok (.aload_n 0, 1) := by decide +kernel
theorem d_M_squares_1 : decode prog_13_method_20_code 1 = .ok (.getfield 20, 3) := by decide +kernel
theorem d_M_squares_4 : decode prog_13_method_20_code 4 = .ok (.iload_n 1, 1) := by decide +kernel
theorem d_M_squares_5 : decode prog_13_method_20_code 5 = .ok (.iaload, 1) := by decide +kernel
theorem d_M_squares_6 : decode prog_13_method_20_code 6 = .ok (.aload_n 0, 1) := by decide +kernel
theorem d_M_squares_7 : decode prog_13_method_20_code 7 = .ok (.getfield 20, 3) := by decide +kernel
theorem d_M_squares_10 : decode prog_13_method_20_code 10 = .ok (.iload_n 1, 1) := by decide +kernel
theorem d_M_squares_11 : decode prog_13_method_20_code 11 = .ok (.iconst 1, 1) := by decide +kernel
theorem d_M_squares_12 : decode prog_13_method_20_code 12 = .ok (.iadd, 1) := by decide +kernel
theorem d_M_squares_13 : decode prog_13_method_20_code 13 = .ok (.iaload, 1) := by decide +kernel
theorem d_M_squares_14 : decode prog_13_method_20_code 14 = .ok (.imul, 1) := by decide +kernel
theorem d_M_squares_15 : decode prog_13_method_20_code 15 = .ok (.ireturn, 1) := by decide +kernel
theorem w_M_squares {p : Program} {l : Launch} {e : Env} {s : State} {m : MethodId} {args : Array Value} {below : List Frame} {meth : Method} {c : Code} {K : KT} {A : Nat → Prop} (C0 : Cx p s m args meth c prog_13_method_20_code "CanoeSidesModel" 2 K A) (hr : meth.sig.returnType = (Option.some Jvm.ClassFile.FieldType.int)) {ad : Nat → Nat} (a0 : Int32) (h : Hp) {res : Int32} (hE : K_M_squares a0 h = some res) : G p l e rm_M_squares s m args below meth c K A WM 2 0 0 (QI s args below K A WM 0 0 ad res h) 0 [(0, .ref (ad 100)), (1, .int a0)] [] ad h := by
  unfold K_M_squares at hE
  refine g_aload_n C0 0 d_M_squares_0 rfl rfl ?_
  refine g_getr C0 CK_11 3 (by decide) t_1093 0 rfl rfl d_M_squares_1 ?_
  refine g_iload_n C0 1 d_M_squares_4 rfl rfl ?_
  obtain ⟨q5, v5, e5, hE⟩ := gA_some hE
  refine g_iald C0 4 rfl q5 d_M_squares_5 ?_
  refine g_top e5 ?_
  refine g_aload_n C0 0 d_M_squares_6 rfl rfl ?_
  refine g_getr C0 CK_11 3 (by decide) t_1093 0 rfl rfl d_M_squares_7 ?_
  refine g_iload_n C0 1 d_M_squares_10 rfl rfl ?_
  refine g_iconst C0 (v := 1) d_M_squares_11 (by decide) ?_
  refine g_iadd C0 d_M_squares_12 ?_
  obtain ⟨q13, v13, e13, hE⟩ := gA_some hE
  refine g_iald C0 4 rfl q13 d_M_squares_13 ?_
  refine g_top e13 ?_
  refine g_imul C0 d_M_squares_14 ?_
  obtain rfl := Option.some.inj hE
  exact g_iret C0 hr d_M_squares_15
theorem m_M_squares (l : Launch) (K : KT) (ad : Nat → Nat) (h : Hp) (a0 : Int32) {res : Int32} (hE : K_M_squares a0 h = some res) : ConI l y_M_squares prog_13_method_20_code 2 (Option.some Jvm.ClassFile.FieldType.int) rm_M_squares K WM ad h [.ref (ad 100), .int a0] res h := fun sz =>
  con_start [(0, .ref (ad 100)), (1, .int a0)] (by decide +kernel) rfl (Nat.le_of_ble_eq_true rfl) (fun p e s m args below meth c C0 hr hnm hsz => w_M_squares C0 hr a0 h hE)
abbrev y_M_river : MethodName := ⟨"CanoeSidesModel", "river", "()I"⟩
abbrev rm_M_river : Room := { frames := 4, cells := 0, slots := 0, locals := 98 }
theorem cd_M_river : cwd y_M_river 0 := by decide +kernel
theorem d_M_river_0 : decode prog_13_method_18_code 0 = .ok (.aload_n 0, 1) := by decide +kernel
theorem d_M_river_1 : decode prog_13_method_18_code 1 = .ok (.iconst 0, 1) := by decide +kernel
theorem d_M_river_2 : decode prog_13_method_18_code 2 = .ok (.putfield 76, 3) := by decide +kernel
theorem d_M_river_5 : decode prog_13_method_18_code 5 = .ok (.aload_n 0, 1) := by decide +kernel
theorem d_M_river_6 : decode prog_13_method_18_code 6 = .ok (.iconst 0, 1) := by decide +kernel
theorem d_M_river_7 : decode prog_13_method_18_code 7 = .ok (.putfield 79, 3) := by decide +kernel
theorem d_M_river_10 : decode prog_13_method_18_code 10 = .ok (.aload_n 0, 1) := by decide +kernel
theorem d_M_river_11 : decode prog_13_method_18_code 11 = .ok (.iconst (-1), 1) := by decide +kernel
theorem d_M_river_12 : decode prog_13_method_18_code 12 = .ok (.putfield 29, 3) := by decide +kernel
theorem d_M_river_15 : decode prog_13_method_18_code 15 = .ok (.aload_n 0, 1) := by decide +kernel
theorem d_M_river_16 : decode prog_13_method_18_code 16 = .ok (.iconst 0, 1) := by decide +kernel
theorem d_M_river_17 : decode prog_13_method_18_code 17 = .ok (.putfield 112, 3) := by decide +kernel
theorem d_M_river_20 : decode prog_13_method_18_code 20 = .ok (.aload_n 0, 1) := by decide +kernel
theorem d_M_river_21 : decode prog_13_method_18_code 21 = .ok (.iconst 1, 1) := by decide +kernel
theorem d_M_river_22 : decode prog_13_method_18_code 22 = .ok (.invokevirtual 61, 3) := by decide +kernel
theorem d_M_river_25 : decode prog_13_method_18_code 25 = .ok (.aload_n 0, 1) := by decide +kernel
theorem d_M_river_26 : decode prog_13_method_18_code 26 = .ok (.getfield 79, 3) := by decide +kernel
theorem d_M_river_29 : decode prog_13_method_18_code 29 = .ok (.ifCond .ne 60, 3) := by decide +kernel
theorem d_M_river_32 : decode prog_13_method_18_code 32 = .ok (.aload_n 0, 1) := by decide +kernel
theorem d_M_river_33 : decode prog_13_method_18_code 33 = .ok (.invokevirtual 82, 3) := by decide +kernel
theorem d_M_river_36 : decode prog_13_method_18_code 36 = .ok (.ifCond .lt 53, 3) := by decide +kernel
theorem d_M_river_39 : decode prog_13_method_18_code 39 = .ok (.aload_n 0, 1) := by decide +kernel
theorem d_M_river_40 : decode prog_13_method_18_code 40 = .ok (.invokevirtual 128, 3) := by decide +kernel
theorem d_M_river_43 : decode prog_13_method_18_code 43 = .ok (.aload_n 0, 1) := by decide +kernel
theorem d_M_river_44 : decode prog_13_method_18_code 44 = .ok (.getfield 79, 3) := by decide +kernel
theorem d_M_river_47 : decode prog_13_method_18_code 47 = .ok (.ifCond .ne (-22), 3) := by decide +kernel
theorem d_M_river_50 : decode prog_13_method_18_code 50 = .ok (.aload_n 0, 1) := by decide +kernel
theorem d_M_river_51 : decode prog_13_method_18_code 51 = .ok (.aload_n 0, 1) := by decide +kernel
theorem d_M_river_52 : decode prog_13_method_18_code 52 = .ok (.invokevirtual 82, 3) := by decide +kernel
theorem d_M_river_55 : decode prog_13_method_18_code 55 = .ok (.bipush 59, 2) := by decide +kernel
theorem d_M_river_57 : decode prog_13_method_18_code 57 = .ok (.if_icmp .ne 7, 3) := by decide +kernel
theorem d_M_river_60 : decode prog_13_method_18_code 60 = .ok (.iconst 1, 1) := by decide +kernel
theorem d_M_river_61 : decode prog_13_method_18_code 61 = .ok (.goto 4, 3) := by decide +kernel
theorem d_M_river_64 : decode prog_13_method_18_code 64 = .ok (.iconst 0, 1) := by decide +kernel
theorem d_M_river_65 : decode prog_13_method_18_code 65 = .ok (.iconst 1, 1) := by decide +kernel
theorem d_M_river_66 : decode prog_13_method_18_code 66 = .ok (.aload_n 0, 1) := by decide +kernel
theorem d_M_river_67 : decode prog_13_method_18_code 67 = .ok (.getfield 76, 3) := by decide +kernel
theorem d_M_river_70 : decode prog_13_method_18_code 70 = .ok (.invokevirtual 93, 3) := by decide +kernel
theorem d_M_river_73 : decode prog_13_method_18_code 73 = .ok (.ifCond .eq (-48), 3) := by decide +kernel
theorem d_M_river_76 : decode prog_13_method_18_code 76 = .ok (.aload_n 0, 1) := by decide +kernel
theorem d_M_river_77 : decode prog_13_method_18_code 77 = .ok (.dup, 1) := by decide +kernel
theorem d_M_river_78 : decode prog_13_method_18_code 78 = .ok (.getfield 76, 3) := by decide +kernel
theorem d_M_river_81 : decode prog_13_method_18_code 81 = .ok (.iconst 1, 1) := by decide +kernel
theorem d_M_river_82 : decode prog_13_method_18_code 82 = .ok (.iadd, 1) := by decide +kernel
theorem d_M_river_83 : decode prog_13_method_18_code 83 = .ok (.putfield 76, 3) := by decide +kernel
theorem d_M_river_86 : decode prog_13_method_18_code 86 = .ok (.goto (-61), 3) := by decide +kernel
theorem d_M_river_89 : decode prog_13_method_18_code 89 = .ok (.aload_n 0, 1) := by decide +kernel
theorem d_M_river_90 : decode prog_13_method_18_code 90 = .ok (.iconst 0, 1) := by decide +kernel
theorem d_M_river_91 : decode prog_13_method_18_code 91 = .ok (.putfield 72, 3) := by decide +kernel
theorem d_M_river_94 : decode prog_13_method_18_code 94 = .ok (.aload_n 0, 1) := by decide +kernel
theorem d_M_river_95 : decode prog_13_method_18_code 95 = .ok (.getfield 79, 3) := by decide +kernel
theorem d_M_river_98 : decode prog_13_method_18_code 98 = .ok (.ifCond .le 11, 3) := by decide +kernel
theorem d_M_river_101 : decode prog_13_method_18_code 101 = .ok (.bipush (-10), 2) := by decide +kernel
theorem d_M_river_103 : decode prog_13_method_18_code 103 = .ok (.aload_n 0, 1) := by decide +kernel
theorem d_M_river_104 : decode prog_13_method_18_code 104 = .ok (.getfield 79, 3) := by decide +kernel
theorem d_M_river_107 : decode prog_13_method_18_code 107 = .ok (.isub, 1) := by decide +kernel
theorem d_M_river_108 : decode prog_13_method_18_code 108 = .ok (.ireturn, 1) := by decide +kernel
theorem d_M_river_109 : decode prog_13_method_18_code 109 = .ok (.aload_n 0, 1) := by decide +kernel
theorem d_M_river_110 : decode prog_13_method_18_code 110 = .ok (.bipush 12, 2) := by decide +kernel
theorem d_M_river_112 : decode prog_13_method_18_code 112 = .ok (.invokevirtual 131, 3) := by decide +kernel
theorem d_M_river_115 : decode prog_13_method_18_code 115 = .ok (.iconst 1, 1) := by decide +kernel
theorem d_M_river_116 : decode prog_13_method_18_code 116 = .ok (.isub, 1) := by decide +kernel
theorem d_M_river_117 : decode prog_13_method_18_code 117 = .ok (.istore_n 1, 1) := by decide +kernel
theorem d_M_river_118 : decode prog_13_method_18_code 118 = .ok (.iload_n 1, 1) := by decide +kernel
theorem d_M_river_119 : decode prog_13_method_18_code 119 = .ok (.ifCond .lt 51, 3) := by decide +kernel
theorem d_M_river_122 : decode prog_13_method_18_code 122 = .ok (.aload_n 0, 1) := by decide +kernel
theorem d_M_river_123 : decode prog_13_method_18_code 123 = .ok (.getfield 112, 3) := by decide +kernel
theorem d_M_river_126 : decode prog_13_method_18_code 126 = .ok (.iconst 2, 1) := by decide +kernel
theorem d_M_river_127 : decode prog_13_method_18_code 127 = .ok (.invokestatic 115, 3) := by decide +kernel
theorem d_M_river_130 : decode prog_13_method_18_code 130 = .ok (.ifCond .ne 40, 3) := by decide +kernel
theorem d_M_river_133 : decode prog_13_method_18_code 133 = .ok (.aload_n 0, 1) := by decide +kernel
theorem d_M_river_134 : decode prog_13_method_18_code 134 = .ok (.getfield 20, 3) := by decide +kernel
theorem d_M_river_137 : decode prog_13_method_18_code 137 = .ok (.bipush 18, 2) := by decide +kernel
theorem d_M_river_139 : decode prog_13_method_18_code 139 = .ok (.aload_n 0, 1) := by decide +kernel
theorem d_M_river_140 : decode prog_13_method_18_code 140 = .ok (.getfield 17, 3) := by decide +kernel
theorem d_M_river_143 : decode prog_13_method_18_code 143 = .ok (.bipush 48, 2) := by decide +kernel
theorem d_M_river_145 : decode prog_13_method_18_code 145 = .ok (.iload_n 1, 1) := by decide +kernel
theorem d_M_river_146 : decode prog_13_method_18_code 146 = .ok (.iadd, 1) := by decide +kernel
theorem d_M_river_147 : decode prog_13_method_18_code 147 = .ok (.iaload, 1) := by decide +kernel
theorem d_M_river_148 : decode prog_13_method_18_code 148 = .ok (.iconst 1, 1) := by decide +kernel
theorem d_M_river_149 : decode prog_13_method_18_code 149 = .ok (.if_icmp .eq 7, 3) := by decide +kernel
theorem d_M_river_152 : decode prog_13_method_18_code 152 = .ok (.iload_n 1, 1) := by decide +kernel
theorem d_M_river_153 : decode prog_13_method_18_code 153 = .ok (.goto 10, 3) := by decide +kernel
theorem d_M_river_156 : decode prog_13_method_18_code 156 = .ok (.aload_n 0, 1) := by decide +kernel
theorem d_M_river_157 : decode prog_13_method_18_code 157 = .ok (.getfield 20, 3) := by decide +kernel
theorem d_M_river_160 : decode prog_13_method_18_code 160 = .ok (.bipush 18, 2) := by decide +kernel
theorem d_M_river_162 : decode prog_13_method_18_code 162 = .ok (.iaload, 1) := by decide +kernel
theorem d_M_river_163 : decode prog_13_method_18_code 163 = .ok (.iastore, 1) := by decide +kernel
theorem d_M_river_164 : decode prog_13_method_18_code 164 = .ok (.iinc 1 (-1), 3) := by decide +kernel
theorem d_M_river_167 : decode prog_13_method_18_code 167 = .ok (.goto (-49), 3) := by decide +kernel
theorem d_M_river_170 : decode prog_13_method_18_code 170 = .ok (.iconst 0, 1) := by decide +kernel
theorem d_M_river_171 : decode prog_13_method_18_code 171 = .ok (.istore_n 1, 1) := by decide +kernel
theorem d_M_river_172 : decode prog_13_method_18_code 172 = .ok (.iload_n 1, 1) := by decide +kernel
theorem d_M_river_173 : decode prog_13_method_18_code 173 = .ok (.bipush 48, 2) := by decide +kernel
theorem d_M_river_175 : decode prog_13_method_18_code 175 = .ok (.if_icmp .ge 24, 3) := by decide +kernel
theorem d_M_river_178 : decode prog_13_method_18_code 178 = .ok (.aload_n 0, 1) := by decide +kernel
theorem d_M_river_179 : decode prog_13_method_18_code 179 = .ok (.getfield 17, 3) := by decide +kernel
theorem d_M_river_182 : decode prog_13_method_18_code 182 = .ok (.iload_n 1, 1) := by decide +kernel
theorem d_M_river_183 : decode prog_13_method_18_code 183 = .ok (.aload_n 0, 1) := by decide +kernel
theorem d_M_river_184 : decode prog_13_method_18_code 184 = .ok (.getfield 17, 3) := by decide +kernel
theorem d_M_river_187 : decode prog_13_method_18_code 187 = .ok (.bipush 48, 2) := by decide +kernel
theorem d_M_river_189 : decode prog_13_method_18_code 189 = .ok (.iload_n 1, 1) := by decide +kernel
theorem d_M_river_190 : decode prog_13_method_18_code 190 = .ok (.iadd, 1) := by decide +kernel
theorem d_M_river_191 : decode prog_13_method_18_code 191 = .ok (.iaload, 1) := by decide +kernel
theorem d_M_river_192 : decode prog_13_method_18_code 192 = .ok (.iastore, 1) := by decide +kernel
theorem d_M_river_193 : decode prog_13_method_18_code 193 = .ok (.iinc 1 1, 3) := by decide +kernel
theorem d_M_river_196 : decode prog_13_method_18_code 196 = .ok (.goto (-24), 3) := by decide +kernel
theorem d_M_river_199 : decode prog_13_method_18_code 199 = .ok (.iconst 0, 1) := by decide +kernel
theorem d_M_river_200 : decode prog_13_method_18_code 200 = .ok (.istore_n 1, 1) := by decide +kernel
theorem d_M_river_201 : decode prog_13_method_18_code 201 = .ok (.iload_n 1, 1) := by decide +kernel
theorem d_M_river_202 : decode prog_13_method_18_code 202 = .ok (.bipush 12, 2) := by decide +kernel
theorem d_M_river_204 : decode prog_13_method_18_code 204 = .ok (.if_icmp .ge 24, 3) := by decide +kernel
theorem d_M_river_207 : decode prog_13_method_18_code 207 = .ok (.aload_n 0, 1) := by decide +kernel
theorem d_M_river_208 : decode prog_13_method_18_code 208 = .ok (.getfield 20, 3) := by decide +kernel
theorem d_M_river_211 : decode prog_13_method_18_code 211 = .ok (.iload_n 1, 1) := by decide +kernel
theorem d_M_river_212 : decode prog_13_method_18_code 212 = .ok (.aload_n 0, 1) := by decide +kernel
theorem d_M_river_213 : decode prog_13_method_18_code 213 = .ok (.getfield 20, 3) := by decide +kernel
theorem d_M_river_216 : decode prog_13_method_18_code 216 = .ok (.bipush 12, 2) := by decide +kernel
theorem d_M_river_218 : decode prog_13_method_18_code 218 = .ok (.iload_n 1, 1) := by decide +kernel
theorem d_M_river_219 : decode prog_13_method_18_code 219 = .ok (.iadd, 1) := by decide +kernel
theorem d_M_river_220 : decode prog_13_method_18_code 220 = .ok (.iaload, 1) := by decide +kernel
theorem d_M_river_221 : decode prog_13_method_18_code 221 = .ok (.iastore, 1) := by decide +kernel
theorem d_M_river_222 : decode prog_13_method_18_code 222 = .ok (.iinc 1 1, 3) := by decide +kernel
theorem d_M_river_225 : decode prog_13_method_18_code 225 = .ok (.goto (-24), 3) := by decide +kernel
theorem d_M_river_228 : decode prog_13_method_18_code 228 = .ok (.iconst 0, 1) := by decide +kernel
theorem d_M_river_229 : decode prog_13_method_18_code 229 = .ok (.istore_n 1, 1) := by decide +kernel
theorem d_M_river_230 : decode prog_13_method_18_code 230 = .ok (.iload_n 1, 1) := by decide +kernel
theorem d_M_river_231 : decode prog_13_method_18_code 231 = .ok (.bipush 8, 2) := by decide +kernel
theorem d_M_river_233 : decode prog_13_method_18_code 233 = .ok (.if_icmp .ge 24, 3) := by decide +kernel
theorem d_M_river_236 : decode prog_13_method_18_code 236 = .ok (.aload_n 0, 1) := by decide +kernel
theorem d_M_river_237 : decode prog_13_method_18_code 237 = .ok (.getfield 23, 3) := by decide +kernel
theorem d_M_river_240 : decode prog_13_method_18_code 240 = .ok (.iload_n 1, 1) := by decide +kernel
theorem d_M_river_241 : decode prog_13_method_18_code 241 = .ok (.aload_n 0, 1) := by decide +kernel
theorem d_M_river_242 : decode prog_13_method_18_code 242 = .ok (.getfield 23, 3) := by decide +kernel
theorem d_M_river_245 : decode prog_13_method_18_code 245 = .ok (.bipush 8, 2) := by decide +kernel
theorem d_M_river_247 : decode prog_13_method_18_code 247 = .ok (.iload_n 1, 1) := by decide +kernel
theorem d_M_river_248 : decode prog_13_method_18_code 248 = .ok (.iadd, 1) := by decide +kernel
theorem d_M_river_249 : decode prog_13_method_18_code 249 = .ok (.iaload, 1) := by decide +kernel
theorem d_M_river_250 : decode prog_13_method_18_code 250 = .ok (.iastore, 1) := by decide +kernel
theorem d_M_river_251 : decode prog_13_method_18_code 251 = .ok (.iinc 1 1, 3) := by decide +kernel
theorem d_M_river_254 : decode prog_13_method_18_code 254 = .ok (.goto (-24), 3) := by decide +kernel
theorem d_M_river_257 : decode prog_13_method_18_code 257 = .ok (.aload_n 0, 1) := by decide +kernel
theorem d_M_river_258 : decode prog_13_method_18_code 258 = .ok (.getfield 7, 3) := by decide +kernel
theorem d_M_river_261 : decode prog_13_method_18_code 261 = .ok (.iconst 0, 1) := by decide +kernel
theorem d_M_river_262 : decode prog_13_method_18_code 262 = .ok (.aload_n 0, 1) := by decide +kernel
theorem d_M_river_263 : decode prog_13_method_18_code 263 = .ok (.getfield 20, 3) := by decide +kernel
theorem d_M_river_266 : decode prog_13_method_18_code 266 = .ok (.bipush 6, 2) := by decide +kernel
theorem d_M_river_268 : decode prog_13_method_18_code 268 = .ok (.iaload, 1) := by decide +kernel
theorem d_M_river_269 : decode prog_13_method_18_code 269 = .ok (.iastore, 1) := by decide +kernel
theorem d_M_river_270 : decode prog_13_method_18_code 270 = .ok (.aload_n 0, 1) := by decide +kernel
theorem d_M_river_271 : decode prog_13_method_18_code 271 = .ok (.getfield 7, 3) := by decide +kernel
theorem d_M_river_274 : decode prog_13_method_18_code 274 = .ok (.iconst 1, 1) := by decide +kernel
theorem d_M_river_275 : decode prog_13_method_18_code 275 = .ok (.aload_n 0, 1) := by decide +kernel
theorem d_M_river_276 : decode prog_13_method_18_code 276 = .ok (.getfield 20, 3) := by decide +kernel
theorem d_M_river_279 : decode prog_13_method_18_code 279 = .ok (.bipush 7, 2) := by decide +kernel
theorem d_M_river_281 : decode prog_13_method_18_code 281 = .ok (.iaload, 1) := by decide +kernel
theorem d_M_river_282 : decode prog_13_method_18_code 282 = .ok (.iastore, 1) := by decide +kernel
theorem d_M_river_283 : decode prog_13_method_18_code 283 = .ok (.aload_n 0, 1) := by decide +kernel
theorem d_M_river_284 : decode prog_13_method_18_code 284 = .ok (.getfield 7, 3) := by decide +kernel
theorem d_M_river_287 : decode prog_13_method_18_code 287 = .ok (.iconst 2, 1) := by decide +kernel
theorem d_M_river_288 : decode prog_13_method_18_code 288 = .ok (.iconst 0, 1) := by decide +kernel
theorem d_M_river_289 : decode prog_13_method_18_code 289 = .ok (.iastore, 1) := by decide +kernel
theorem d_M_river_290 : decode prog_13_method_18_code 290 = .ok (.aload_n 0, 1) := by decide +kernel
theorem d_M_river_291 : decode prog_13_method_18_code 291 = .ok (.iconst 0, 1) := by decide +kernel
theorem d_M_river_292 : decode prog_13_method_18_code 292 = .ok (.putfield 134, 3) := by decide +kernel
theorem d_M_river_295 : decode prog_13_method_18_code 295 = .ok (.aload_n 0, 1) := by decide +kernel
theorem d_M_river_296 : decode prog_13_method_18_code 296 = .ok (.iconst 0, 1) := by decide +kernel
theorem d_M_river_297 : decode prog_13_method_18_code 297 = .ok (.putfield 137, 3) := by decide +kernel
theorem d_M_river_300 : decode prog_13_method_18_code 300 = .ok (.aload_n 0, 1) := by decide +kernel
theorem d_M_river_301 : decode prog_13_method_18_code 301 = .ok (.iconst 0, 1) := by decide +kernel
theorem d_M_river_302 : decode prog_13_method_18_code 302 = .ok (.putfield 140, 3) := by decide +kernel
theorem d_M_river_305 : decode prog_13_method_18_code 305 = .ok (.aload_n 0, 1) := by decide +kernel
theorem d_M_river_306 : decode prog_13_method_18_code 306 = .ok (.getfield 13, 3) := by decide +kernel
theorem d_M_river_309 : decode prog_13_method_18_code 309 = .ok (.iconst 0, 1) := by decide +kernel
theorem d_M_river_310 : decode prog_13_method_18_code 310 = .ok (.iconst 0, 1) := by decide +kernel
theorem d_M_river_311 : decode prog_13_method_18_code 311 = .ok (.bastore, 1) := by decide +kernel
theorem d_M_river_312 : decode prog_13_method_18_code 312 = .ok (.aload_n 0, 1) := by decide +kernel
theorem d_M_river_313 : decode prog_13_method_18_code 313 = .ok (.getfield 13, 3) := by decide +kernel
theorem d_M_river_316 : decode prog_13_method_18_code 316 = .ok (.iconst 1, 1) := by decide +kernel
theorem d_M_river_317 : decode prog_13_method_18_code 317 = .ok (.iconst 0, 1) := by decide +kernel
theorem d_M_river_318 : decode prog_13_method_18_code 318 = .ok (.bastore, 1) := by decide +kernel
theorem d_M_river_319 : decode prog_13_method_18_code 319 = .ok (.aload_n 0, 1) := by decide +kernel
theorem d_M_river_320 : decode prog_13_method_18_code 320 = .ok (.iconst 0, 1) := by decide +kernel
theorem d_M_river_321 : decode prog_13_method_18_code 321 = .ok (.invokevirtual 131, 3) := by decide +kernel
theorem d_M_river_324 : decode prog_13_method_18_code 324 = .ok (.ireturn, 1) := by decide +kernel
theorem w_M_river_J65 {p : Program} {l : Launch} {e : Env} {s : State} {m : MethodId} {args : Array Value} {below : List Frame} {meth : Method} {c : Code} {K : KT} {A : Nat → Prop} {Q : State → Prop} (C0 : Cx p s m args meth c prog_13_method_18_code "CanoeSidesModel" 2 K A) (hr : meth.sig.returnType = (Option.some Jvm.ClassFile.FieldType.int)) {ad : Nat → Nat} (N : Nat) (y1 : Int32) (h : Hp) {x_ : (Hp) ⊕ (Hp)} (hE : K_M_river_J65 N y1 h = some x_) (hk1 : ∀ z_, x_ = .inl z_ → G p l e rm_M_river s m args below meth c K A WM 2 0 0 Q 25 [(0, .ref (ad 100))] [] ad z_) (hk3 : ∀ z_, x_ = .inr z_ → G p l e rm_M_river s m args below meth c K A WM 2 0 0 Q 89 [(0, .ref (ad 100))] [] ad z_) : G p l e rm_M_river s m args below meth c K A WM 2 0 0 Q 65 [(0, .ref (ad 100))] [.int y1, .ref (ad 100)] ad h := by
  unfold K_M_river_J65 at hE
  refine g_iconst C0 (v := 1) d_M_river_65 (by decide) ?_
  refine g_aload_n C0 0 d_M_river_66 rfl rfl ?_
  refine g_geti C0 CK_11 8 (by decide) t_1098 0 rfl rfl d_M_river_67 ?_
  obtain ⟨v70, h70, z70, hE⟩ := bd2_some hE
  refine g_calli C0 nd_M [100, 101, 102, 103, 104, 105, 106, 107, 108, 109, 110, 111, 112, 113, 114, 115] rfl (sbW_self WM) (runV C0 (m_M_want l K ad h y1 1 (h 100 8) z70) 3 rfl ⟨t_1216, t_1218, t_44, t_97, t_1219⟩ cd_M_want (by decide) 0 rfl rfl (sbW_self WM) nd_M rfl rfl (Nat.le_of_ble_eq_true rfl) d_M_river_70) ?_
  refine g_mx [100, 101, 102, 103, 104, 105, 106, 107, 108, 109, 110, 111, 112, 113, 114, 115] rfl ?_
  have hB := ite_some hE
  refine g_if_eq C0 (tgt := 25) d_M_river_73 (by decide) (fun c_ => ?_) (fun c_ => ?_)
  · replace hE := hB.1 c_
    exact hk1 _ (Option.some.inj hE).symm
  · replace hE := hB.2 c_
    refine g_aload_n C0 0 d_M_river_76 rfl rfl ?_
    refine g_dup C0 d_M_river_77 rfl ?_
    refine g_geti C0 CK_11 8 (by decide) t_1098 0 rfl rfl d_M_river_78 ?_
    refine g_iconst C0 (v := 1) d_M_river_81 (by decide) ?_
    refine g_iadd C0 d_M_river_82 ?_
    obtain ⟨h83, e83, hE⟩ := nm_some hE
    refine g_puti C0 CK_11 CT_11 8 (by decide) t_1098 rfl (by decide +kernel) nd_M 0 rfl rfl d_M_river_83 ?_
    refine g_heap e83 ?_
    refine g_goto C0 (tgt := 25) d_M_river_86 (by decide) ?_
    exact hk1 _ (Option.some.inj hE).symm
theorem w_M_river_L25 {p : Program} {l : Launch} {e : Env} {s : State} {m : MethodId} {args : Array Value} {below : List Frame} {meth : Method} {c : Code} {K : KT} {A : Nat → Prop} {Q : State → Prop} (C0 : Cx p s m args meth c prog_13_method_18_code "CanoeSidesModel" 2 K A) (hr : meth.sig.returnType = (Option.some Jvm.ClassFile.FieldType.int)) {ad : Nat → Nat} (N : Nat) (h : Hp) {x_ : (Hp) ⊕ (Hp)} (hE : K_M_river_L25 N h = some x_) (hk1 : ∀ z_, x_ = .inl z_ → G p l e rm_M_river s m args below meth c K A WM 2 0 0 Q 25 [(0, .ref (ad 100))] [] ad z_) (hk3 : ∀ z_, x_ = .inr z_ → G p l e rm_M_river s m args below meth c K A WM 2 0 0 Q 89 [(0, .ref (ad 100))] [] ad z_) : G p l e rm_M_river s m args below meth c K A WM 2 0 0 Q 25 [(0, .ref (ad 100))] [] ad h := by
  unfold K_M_river_L25 at hE
  refine g_aload_n C0 0 d_M_river_25 rfl rfl ?_
  refine g_geti C0 CK_11 10 (by decide) t_1100 0 rfl rfl d_M_river_26 ?_
  have hB := ite_some hE
  refine g_if_ne C0 (tgt := 89) d_M_river_29 (by decide) (fun c_ => ?_) (fun c_ => ?_)
  · replace hE := hB.2 c_
    exact hk3 _ (Option.some.inj hE).symm
  · replace hE := hB.1 c_
    refine g_aload_n C0 0 d_M_river_32 rfl rfl ?_
    obtain ⟨v33, h33, z33, hE⟩ := bd2_some hE
    refine g_calli C0 nd_M [100, 101, 102, 103, 104, 105, 106, 107, 108, 109, 110, 111, 112, 113, 114, 115] rfl (sbW_self WM) (runV C0 (m_M_here l K ad h N z33) 0 rfl ⟨t_1205, t_1207, t_42, t_97, t_1208⟩ cd_M_here (by decide) 0 rfl rfl (sbW_self WM) nd_M rfl rfl (Nat.le_of_ble_eq_true rfl) d_M_river_33) ?_
    refine g_mx [100, 101, 102, 103, 104, 105, 106, 107, 108, 109, 110, 111, 112, 113, 114, 115] rfl ?_
    have hB := ite_some hE
    refine g_if_lt C0 (tgt := 89) d_M_river_36 (by decide) (fun c_ => ?_) (fun c_ => ?_)
    · replace hE := hB.1 c_
      exact hk3 _ (Option.some.inj hE).symm
    · replace hE := hB.2 c_
      refine g_aload_n C0 0 d_M_river_39 rfl rfl ?_
      obtain ⟨h40, z40, hE⟩ := bd_some hE
      refine g_callv C0 nd_M [100, 101, 102, 103, 104, 105, 106, 107, 108, 109, 110, 111, 112, 113, 114, 115] rfl (sbW_self WM) (runV C0 (m_M_takeClause l K ad h33 N z40) 0 rfl ⟨t_1209, t_1211, t_43, t_97, t_1212⟩ cd_M_takeClause (by decide) 0 rfl rfl (sbW_self WM) nd_M rfl rfl (Nat.le_of_ble_eq_true rfl) d_M_river_40) ?_
      refine g_mx [100, 101, 102, 103, 104, 105, 106, 107, 108, 109, 110, 111, 112, 113, 114, 115] rfl ?_
      refine g_aload_n C0 0 d_M_river_43 rfl rfl ?_
      refine g_geti C0 CK_11 10 (by decide) t_1100 0 rfl rfl d_M_river_44 ?_
      have hB := ite_some hE
      refine g_if_ne C0 (tgt := 25) d_M_river_47 (by decide) (fun c_ => ?_) (fun c_ => ?_)
      · replace hE := hB.2 c_
        exact hk1 _ (Option.some.inj hE).symm
      · replace hE := hB.1 c_
        refine g_aload_n C0 0 d_M_river_50 rfl rfl ?_
        refine g_aload_n C0 0 d_M_river_51 rfl rfl ?_
        obtain ⟨v52, h52, z52, hE⟩ := bd2_some hE
        refine g_calli C0 nd_M [100, 101, 102, 103, 104, 105, 106, 107, 108, 109, 110, 111, 112, 113, 114, 115] rfl (sbW_self WM) (runV C0 (m_M_here l K ad h40 N z52) 0 rfl ⟨t_1205, t_1207, t_42, t_97, t_1208⟩ cd_M_here (by decide) 0 rfl rfl (sbW_self WM) nd_M rfl rfl (Nat.le_of_ble_eq_true rfl) d_M_river_52) ?_
        refine g_mx [100, 101, 102, 103, 104, 105, 106, 107, 108, 109, 110, 111, 112, 113, 114, 115] rfl ?_
        refine g_bipush C0 (v := 59) d_M_river_55 (by decide) ?_
        have hB := ite_some hE
        refine g_icmp_ne C0 (tgt := 64) d_M_river_57 (by decide) (fun c_ => ?_) (fun c_ => ?_)
        · replace hE := hB.2 c_
          refine g_iconst C0 (v := 0) d_M_river_64 (by decide) ?_
          exact w_M_river_J65 C0 hr N 0 h52 hE hk1 hk3
        · replace hE := hB.1 c_
          refine g_iconst C0 (v := 1) d_M_river_60 (by decide) ?_
          refine g_goto C0 (tgt := 65) d_M_river_61 (by decide) ?_
          exact w_M_river_J65 C0 hr N 1 h52 hE hk1 hk3
theorem w_M_river_J163 {p : Program} {l : Launch} {e : Env} {s : State} {m : MethodId} {args : Array Value} {below : List Frame} {meth : Method} {c : Code} {K : KT} {A : Nat → Prop} {Q : State → Prop} (C0 : Cx p s m args meth c prog_13_method_18_code "CanoeSidesModel" 2 K A) (hr : meth.sig.returnType = (Option.some Jvm.ClassFile.FieldType.int)) {ad : Nat → Nat} (N : Nat) (x1 : Int32) (y1 : Int32) (y2 : Int32) (h : Hp) {x_ : (Int32 × Hp) ⊕ (Hp)} (hE : K_M_river_J163 N x1 y1 y2 h = some x_) (hk1 : ∀ z_, x_ = .inl z_ → G p l e rm_M_river s m args below meth c K A WM 2 0 0 Q 118 [(0, .ref (ad 100)), (1, .int z_.1)] [] ad z_.2) (hk3 : ∀ z_, x_ = .inr z_ → G p l e rm_M_river s m args below meth c K A WM 2 0 0 Q 170 [(0, .ref (ad 100))] [] ad z_) : G p l e rm_M_river s m args below meth c K A WM 2 0 0 Q 163 [(0, .ref (ad 100)), (1, .int x1)] [.int y2, .int y1, .ref (ad 104)] ad h := by
  unfold K_M_river_J163 at hE
  obtain ⟨q163, hE⟩ := sA_some hE
  obtain ⟨h163, e163, hE⟩ := nm_some hE
  refine g_iast C0 4 rfl nd_M q163 d_M_river_163 ?_
  refine g_heap e163 ?_
  obtain ⟨v164, e164, hE⟩ := nm_some hE
  refine g_iinc C0 1 [(1, .int v164), (0, .ref (ad 100))] d_M_river_164 rfl (by rw [e164]; rfl) (by decide) rfl ?_
  refine g_goto C0 (tgt := 118) d_M_river_167 (by decide) ?_
  refine g_sub [1, 0] (L' := [(0, .ref (ad 100)), (1, .int v164)]) rfl ?_
  exact hk1 _ (Option.some.inj hE).symm
theorem w_M_river_L118 {p : Program} {l : Launch} {e : Env} {s : State} {m : MethodId} {args : Array Value} {below : List Frame} {meth : Method} {c : Code} {K : KT} {A : Nat → Prop} {Q : State → Prop} (C0 : Cx p s m args meth c prog_13_method_18_code "CanoeSidesModel" 2 K A) (hr : meth.sig.returnType = (Option.some Jvm.ClassFile.FieldType.int)) {ad : Nat → Nat} (N : Nat) (x1 : Int32) (h : Hp) {x_ : (Int32 × Hp) ⊕ (Hp)} (hE : K_M_river_L118 N x1 h = some x_) (hk1 : ∀ z_, x_ = .inl z_ → G p l e rm_M_river s m args below meth c K A WM 2 0 0 Q 118 [(0, .ref (ad 100)), (1, .int z_.1)] [] ad z_.2) (hk3 : ∀ z_, x_ = .inr z_ → G p l e rm_M_river s m args below meth c K A WM 2 0 0 Q 170 [(0, .ref (ad 100))] [] ad z_) : G p l e rm_M_river s m args below meth c K A WM 2 0 0 Q 118 [(0, .ref (ad 100)), (1, .int x1)] [] ad h := by
  unfold K_M_river_L118 at hE
  refine g_iload_n C0 1 d_M_river_118 rfl rfl ?_
  have hB := ite_some hE
  refine g_if_lt C0 (tgt := 170) d_M_river_119 (by decide) (fun c_ => ?_) (fun c_ => ?_)
  · replace hE := hB.1 c_
    refine g_sub [0] (L' := [(0, .ref (ad 100))]) rfl ?_
    exact hk3 _ (Option.some.inj hE).symm
  · replace hE := hB.2 c_
    refine g_aload_n C0 0 d_M_river_122 rfl rfl ?_
    refine g_geti C0 CK_11 5 (by decide) t_1095 0 rfl rfl d_M_river_123 ?_
    refine g_iconst C0 (v := 2) d_M_river_126 (by decide) ?_
    obtain ⟨v127, z127, hE⟩ := bd_some hE
    refine g_calliP C0 nd_M [] rfl (sb_E_M) (runS C0 (m_M_has l K ad h (h 100 5) 2 z127) 2 ⟨t_1220, t_1221, t_97, t_1222⟩ cd_M_has (by decide) (sb_E_M) nd_E rfl rfl (Nat.le_of_ble_eq_true rfl) d_M_river_127) ?_
    have hB := ite_some hE
    refine g_if_ne C0 (tgt := 170) d_M_river_130 (by decide) (fun c_ => ?_) (fun c_ => ?_)
    · replace hE := hB.2 c_
      refine g_sub [0] (L' := [(0, .ref (ad 100))]) rfl ?_
      exact hk3 _ (Option.some.inj hE).symm
    · replace hE := hB.1 c_
      refine g_aload_n C0 0 d_M_river_133 rfl rfl ?_
      refine g_getr C0 CK_11 3 (by decide) t_1093 0 rfl rfl d_M_river_134 ?_
      refine g_bipush C0 (v := 18) d_M_river_137 (by decide) ?_
      refine g_aload_n C0 0 d_M_river_139 rfl rfl ?_
      refine g_getr C0 CK_11 2 (by decide) t_1092 0 rfl rfl d_M_river_140 ?_
      refine g_bipush C0 (v := 48) d_M_river_143 (by decide) ?_
      refine g_iload_n C0 1 d_M_river_145 rfl rfl ?_
      refine g_iadd C0 d_M_river_146 ?_
      obtain ⟨q147, v147, e147, hE⟩ := gA_some hE
      refine g_iald C0 3 rfl q147 d_M_river_147 ?_
      refine g_top e147 ?_
      refine g_iconst C0 (v := 1) d_M_river_148 (by decide) ?_
      have hB := ite_some hE
      refine g_icmp_eq C0 (tgt := 156) d_M_river_149 (by decide) (fun c_ => ?_) (fun c_ => ?_)
      · replace hE := hB.1 c_
        refine g_aload_n C0 0 d_M_river_156 rfl rfl ?_
        refine g_getr C0 CK_11 3 (by decide) t_1093 0 rfl rfl d_M_river_157 ?_
        refine g_bipush C0 (v := 18) d_M_river_160 (by decide) ?_
        obtain ⟨q162, v162, e162, hE⟩ := gA_some hE
        refine g_iald C0 4 rfl q162 d_M_river_162 ?_
        refine g_top e162 ?_
        exact w_M_river_J163 C0 hr N x1 18 v162 h hE hk1 hk3
      · replace hE := hB.2 c_
        refine g_iload_n C0 1 d_M_river_152 rfl rfl ?_
        refine g_goto C0 (tgt := 163) d_M_river_153 (by decide) ?_
        exact w_M_river_J163 C0 hr N x1 18 x1 h hE hk1 hk3
theorem w_M_river_L172 {p : Program} {l : Launch} {e : Env} {s : State} {m : MethodId} {args : Array Value} {below : List Frame} {meth : Method} {c : Code} {K : KT} {A : Nat → Prop} {Q : State → Prop} (C0 : Cx p s m args meth c prog_13_method_18_code "CanoeSidesModel" 2 K A) (hr : meth.sig.returnType = (Option.some Jvm.ClassFile.FieldType.int)) {ad : Nat → Nat} (N : Nat) (x1 : Int32) (h : Hp) {x_ : (Int32 × Hp) ⊕ (Hp)} (hE : K_M_river_L172 N x1 h = some x_) (hk1 : ∀ z_, x_ = .inl z_ → G p l e rm_M_river s m args below meth c K A WM 2 0 0 Q 172 [(0, .ref (ad 100)), (1, .int z_.1)] [] ad z_.2) (hk3 : ∀ z_, x_ = .inr z_ → G p l e rm_M_river s m args below meth c K A WM 2 0 0 Q 199 [(0, .ref (ad 100))] [] ad z_) : G p l e rm_M_river s m args below meth c K A WM 2 0 0 Q 172 [(0, .ref (ad 100)), (1, .int x1)] [] ad h := by
  unfold K_M_river_L172 at hE
  refine g_iload_n C0 1 d_M_river_172 rfl rfl ?_
  refine g_bipush C0 (v := 48) d_M_river_173 (by decide) ?_
  have hB := ite_some hE
  refine g_icmp_ge C0 (tgt := 199) d_M_river_175 (by decide) (fun c_ => ?_) (fun c_ => ?_)
  · replace hE := hB.1 c_
    refine g_sub [0] (L' := [(0, .ref (ad 100))]) rfl ?_
    exact hk3 _ (Option.some.inj hE).symm
  · replace hE := hB.2 c_
    refine g_aload_n C0 0 d_M_river_178 rfl rfl ?_
    refine g_getr C0 CK_11 2 (by decide) t_1092 0 rfl rfl d_M_river_179 ?_
    refine g_iload_n C0 1 d_M_river_182 rfl rfl ?_
    refine g_aload_n C0 0 d_M_river_183 rfl rfl ?_
    refine g_getr C0 CK_11 2 (by decide) t_1092 0 rfl rfl d_M_river_184 ?_
    refine g_bipush C0 (v := 48) d_M_river_187 (by decide) ?_
    refine g_iload_n C0 1 d_M_river_189 rfl rfl ?_
    refine g_iadd C0 d_M_river_190 ?_
    obtain ⟨q191, v191, e191, hE⟩ := gA_some hE
    refine g_iald C0 3 rfl q191 d_M_river_191 ?_
    refine g_top e191 ?_
    obtain ⟨q192, hE⟩ := sA_some hE
    obtain ⟨h192, e192, hE⟩ := nm_some hE
    refine g_iast C0 3 rfl nd_M q192 d_M_river_192 ?_
    refine g_heap e192 ?_
    obtain ⟨v193, e193, hE⟩ := nm_some hE
    refine g_iinc C0 1 [(1, .int v193), (0, .ref (ad 100))] d_M_river_193 rfl (by rw [e193]; rfl) (by decide) rfl ?_
    refine g_goto C0 (tgt := 172) d_M_river_196 (by decide) ?_
    refine g_sub [1, 0] (L' := [(0, .ref (ad 100)), (1, .int v193)]) rfl ?_
    exact hk1 _ (Option.some.inj hE).symm
theorem w_M_river_L201 {p : Program} {l : Launch} {e : Env} {s : State} {m : MethodId} {args : Array Value} {below : List Frame} {meth : Method} {c : Code} {K : KT} {A : Nat → Prop} {Q : State → Prop} (C0 : Cx p s m args meth c prog_13_method_18_code "CanoeSidesModel" 2 K A) (hr : meth.sig.returnType = (Option.some Jvm.ClassFile.FieldType.int)) {ad : Nat → Nat} (N : Nat) (x1 : Int32) (h : Hp) {x_ : (Int32 × Hp) ⊕ (Hp)} (hE : K_M_river_L201 N x1 h = some x_) (hk1 : ∀ z_, x_ = .inl z_ → G p l e rm_M_river s m args below meth c K A WM 2 0 0 Q 201 [(0, .ref (ad 100)), (1, .int z_.1)] [] ad z_.2) (hk3 : ∀ z_, x_ = .inr z_ → G p l e rm_M_river s m args below meth c K A WM 2 0 0 Q 228 [(0, .ref (ad 100))] [] ad z_) : G p l e rm_M_river s m args below meth c K A WM 2 0 0 Q 201 [(0, .ref (ad 100)), (1, .int x1)] [] ad h := by
  unfold K_M_river_L201 at hE
  refine g_iload_n C0 1 d_M_river_201 rfl rfl ?_
  refine g_bipush C0 (v := 12) d_M_river_202 (by decide) ?_
  have hB := ite_some hE
  refine g_icmp_ge C0 (tgt := 228) d_M_river_204 (by decide) (fun c_ => ?_) (fun c_ => ?_)
  · replace hE := hB.1 c_
    refine g_sub [0] (L' := [(0, .ref (ad 100))]) rfl ?_
    exact hk3 _ (Option.some.inj hE).symm
  · replace hE := hB.2 c_
    refine g_aload_n C0 0 d_M_river_207 rfl rfl ?_
    refine g_getr C0 CK_11 3 (by decide) t_1093 0 rfl rfl d_M_river_208 ?_
    refine g_iload_n C0 1 d_M_river_211 rfl rfl ?_
    refine g_aload_n C0 0 d_M_river_212 rfl rfl ?_
    refine g_getr C0 CK_11 3 (by decide) t_1093 0 rfl rfl d_M_river_213 ?_
    refine g_bipush C0 (v := 12) d_M_river_216 (by decide) ?_
    refine g_iload_n C0 1 d_M_river_218 rfl rfl ?_
    refine g_iadd C0 d_M_river_219 ?_
    obtain ⟨q220, v220, e220, hE⟩ := gA_some hE
    refine g_iald C0 4 rfl q220 d_M_river_220 ?_
    refine g_top e220 ?_
    obtain ⟨q221, hE⟩ := sA_some hE
    obtain ⟨h221, e221, hE⟩ := nm_some hE
    refine g_iast C0 4 rfl nd_M q221 d_M_river_221 ?_
    refine g_heap e221 ?_
    obtain ⟨v222, e222, hE⟩ := nm_some hE
    refine g_iinc C0 1 [(1, .int v222), (0, .ref (ad 100))] d_M_river_222 rfl (by rw [e222]; rfl) (by decide) rfl ?_
    refine g_goto C0 (tgt := 201) d_M_river_225 (by decide) ?_
    refine g_sub [1, 0] (L' := [(0, .ref (ad 100)), (1, .int v222)]) rfl ?_
    exact hk1 _ (Option.some.inj hE).symm
theorem w_M_river_L230 {p : Program} {l : Launch} {e : Env} {s : State} {m : MethodId} {args : Array Value} {below : List Frame} {meth : Method} {c : Code} {K : KT} {A : Nat → Prop} {Q : State → Prop} (C0 : Cx p s m args meth c prog_13_method_18_code "CanoeSidesModel" 2 K A) (hr : meth.sig.returnType = (Option.some Jvm.ClassFile.FieldType.int)) {ad : Nat → Nat} (N : Nat) (x1 : Int32) (h : Hp) {x_ : (Int32 × Hp) ⊕ (Hp)} (hE : K_M_river_L230 N x1 h = some x_) (hk1 : ∀ z_, x_ = .inl z_ → G p l e rm_M_river s m args below meth c K A WM 2 0 0 Q 230 [(0, .ref (ad 100)), (1, .int z_.1)] [] ad z_.2) (hk3 : ∀ z_, x_ = .inr z_ → G p l e rm_M_river s m args below meth c K A WM 2 0 0 Q 257 [(0, .ref (ad 100))] [] ad z_) : G p l e rm_M_river s m args below meth c K A WM 2 0 0 Q 230 [(0, .ref (ad 100)), (1, .int x1)] [] ad h := by
  unfold K_M_river_L230 at hE
  refine g_iload_n C0 1 d_M_river_230 rfl rfl ?_
  refine g_bipush C0 (v := 8) d_M_river_231 (by decide) ?_
  have hB := ite_some hE
  refine g_icmp_ge C0 (tgt := 257) d_M_river_233 (by decide) (fun c_ => ?_) (fun c_ => ?_)
  · replace hE := hB.1 c_
    refine g_sub [0] (L' := [(0, .ref (ad 100))]) rfl ?_
    exact hk3 _ (Option.some.inj hE).symm
  · replace hE := hB.2 c_
    refine g_aload_n C0 0 d_M_river_236 rfl rfl ?_
    refine g_getr C0 CK_11 4 (by decide) t_1094 0 rfl rfl d_M_river_237 ?_
    refine g_iload_n C0 1 d_M_river_240 rfl rfl ?_
    refine g_aload_n C0 0 d_M_river_241 rfl rfl ?_
    refine g_getr C0 CK_11 4 (by decide) t_1094 0 rfl rfl d_M_river_242 ?_
    refine g_bipush C0 (v := 8) d_M_river_245 (by decide) ?_
    refine g_iload_n C0 1 d_M_river_247 rfl rfl ?_
    refine g_iadd C0 d_M_river_248 ?_
    obtain ⟨q249, v249, e249, hE⟩ := gA_some hE
    refine g_iald C0 5 rfl q249 d_M_river_249 ?_
    refine g_top e249 ?_
    obtain ⟨q250, hE⟩ := sA_some hE
    obtain ⟨h250, e250, hE⟩ := nm_some hE
    refine g_iast C0 5 rfl nd_M q250 d_M_river_250 ?_
    refine g_heap e250 ?_
    obtain ⟨v251, e251, hE⟩ := nm_some hE
    refine g_iinc C0 1 [(1, .int v251), (0, .ref (ad 100))] d_M_river_251 rfl (by rw [e251]; rfl) (by decide) rfl ?_
    refine g_goto C0 (tgt := 230) d_M_river_254 (by decide) ?_
    refine g_sub [1, 0] (L' := [(0, .ref (ad 100)), (1, .int v251)]) rfl ?_
    exact hk1 _ (Option.some.inj hE).symm
theorem w_M_river_J170 {p : Program} {l : Launch} {e : Env} {s : State} {m : MethodId} {args : Array Value} {below : List Frame} {meth : Method} {c : Code} {K : KT} {A : Nat → Prop} (C0 : Cx p s m args meth c prog_13_method_18_code "CanoeSidesModel" 2 K A) (hr : meth.sig.returnType = (Option.some Jvm.ClassFile.FieldType.int)) {ad : Nat → Nat} (N : Nat) (h : Hp) {res : Int32 × Hp} (hE : K_M_river_J170 N h = some res) : G p l e rm_M_river s m args below meth c K A WM 2 0 0 (QI s args below K A WM 0 0 ad res.1 res.2) 170 [(0, .ref (ad 100))] [] ad h := by
  unfold K_M_river_J170 at hE
  refine g_iconst C0 (v := 0) d_M_river_170 (by decide) ?_
  refine g_istore_n C0 [(1, .int 0), (0, .ref (ad 100))] d_M_river_171 rfl (by decide) rfl ?_
  refine g_sub [1, 0] (L' := [(0, .ref (ad 100)), (1, .int 0)]) rfl ?_
  obtain ⟨t172, z172, hE⟩ := bd_some hE
  refine loopG (fun z_ : Int32 × Hp => K_M_river_L172 N z_.1 z_.2) (fun z_ : Int32 × Hp => G p l e rm_M_river s m args below meth c K A WM 2 0 0 _ 172 [(0, .ref (ad 100)), (1, .int z_.1)] [] ad z_.2) (fun z_ : Hp => G p l e rm_M_river s m args below meth c K A WM 2 0 0 _ 199 [(0, .ref (ad 100))] [] ad z_) (fun z_ x_ hz k1 k2 => w_M_river_L172 C0 hr N z_.1 z_.2 hz k1 k2) _ _ _ z172 ?_
  try dsimp only
  refine g_iconst C0 (v := 0) d_M_river_199 (by decide) ?_
  refine g_istore_n C0 [(1, .int 0), (0, .ref (ad 100))] d_M_river_200 rfl (by decide) rfl ?_
  refine g_sub [1, 0] (L' := [(0, .ref (ad 100)), (1, .int 0)]) rfl ?_
  obtain ⟨t201, z201, hE⟩ := bd_some hE
  refine loopG (fun z_ : Int32 × Hp => K_M_river_L201 N z_.1 z_.2) (fun z_ : Int32 × Hp => G p l e rm_M_river s m args below meth c K A WM 2 0 0 _ 201 [(0, .ref (ad 100)), (1, .int z_.1)] [] ad z_.2) (fun z_ : Hp => G p l e rm_M_river s m args below meth c K A WM 2 0 0 _ 228 [(0, .ref (ad 100))] [] ad z_) (fun z_ x_ hz k1 k2 => w_M_river_L201 C0 hr N z_.1 z_.2 hz k1 k2) _ _ _ z201 ?_
  try dsimp only
  refine g_iconst C0 (v := 0) d_M_river_228 (by decide) ?_
  refine g_istore_n C0 [(1, .int 0), (0, .ref (ad 100))] d_M_river_229 rfl (by decide) rfl ?_
  refine g_sub [1, 0] (L' := [(0, .ref (ad 100)), (1, .int 0)]) rfl ?_
  obtain ⟨t230, z230, hE⟩ := bd_some hE
  refine loopG (fun z_ : Int32 × Hp => K_M_river_L230 N z_.1 z_.2) (fun z_ : Int32 × Hp => G p l e rm_M_river s m args below meth c K A WM 2 0 0 _ 230 [(0, .ref (ad 100)), (1, .int z_.1)] [] ad z_.2) (fun z_ : Hp => G p l e rm_M_river s m args below meth c K A WM 2 0 0 _ 257 [(0, .ref (ad 100))] [] ad z_) (fun z_ x_ hz k1 k2 => w_M_river_L230 C0 hr N z_.1 z_.2 hz k1 k2) _ _ _ z230 ?_
  try dsimp only
  refine g_aload_n C0 0 d_M_river_257 rfl rfl ?_
  refine g_getr C0 CK_11 0 (by decide) t_1090 0 rfl rfl d_M_river_258 ?_
  refine g_iconst C0 (v := 0) d_M_river_261 (by decide) ?_
  refine g_aload_n C0 0 d_M_river_262 rfl rfl ?_
  refine g_getr C0 CK_11 3 (by decide) t_1093 0 rfl rfl d_M_river_263 ?_
  refine g_bipush C0 (v := 6) d_M_river_266 (by decide) ?_
  obtain ⟨q268, v268, e268, hE⟩ := gA_some hE
  refine g_iald C0 4 rfl q268 d_M_river_268 ?_
  refine g_top e268 ?_
  obtain ⟨q269, hE⟩ := sA_some hE
  obtain ⟨h269, e269, hE⟩ := nm_some hE
  refine g_iast C0 1 rfl nd_M q269 d_M_river_269 ?_
  refine g_heap e269 ?_
  refine g_aload_n C0 0 d_M_river_270 rfl rfl ?_
  refine g_getr C0 CK_11 0 (by decide) t_1090 0 rfl rfl d_M_river_271 ?_
  refine g_iconst C0 (v := 1) d_M_river_274 (by decide) ?_
  refine g_aload_n C0 0 d_M_river_275 rfl rfl ?_
  refine g_getr C0 CK_11 3 (by decide) t_1093 0 rfl rfl d_M_river_276 ?_
  refine g_bipush C0 (v := 7) d_M_river_279 (by decide) ?_
  obtain ⟨q281, v281, e281, hE⟩ := gA_some hE
  refine g_iald C0 4 rfl q281 d_M_river_281 ?_
  refine g_top e281 ?_
  obtain ⟨q282, hE⟩ := sA_some hE
  obtain ⟨h282, e282, hE⟩ := nm_some hE
  refine g_iast C0 1 rfl nd_M q282 d_M_river_282 ?_
  refine g_heap e282 ?_
  refine g_aload_n C0 0 d_M_river_283 rfl rfl ?_
  refine g_getr C0 CK_11 0 (by decide) t_1090 0 rfl rfl d_M_river_284 ?_
  refine g_iconst C0 (v := 2) d_M_river_287 (by decide) ?_
  refine g_iconst C0 (v := 0) d_M_river_288 (by decide) ?_
  obtain ⟨q289, hE⟩ := sA_some hE
  obtain ⟨h289, e289, hE⟩ := nm_some hE
  refine g_iast C0 1 rfl nd_M q289 d_M_river_289 ?_
  refine g_heap e289 ?_
  refine g_aload_n C0 0 d_M_river_290 rfl rfl ?_
  refine g_iconst C0 (v := 0) d_M_river_291 (by decide) ?_
  obtain ⟨h292, e292, hE⟩ := nm_some hE
  refine g_puti C0 CK_11 CT_11 26 (by decide) t_1116 rfl (by decide +kernel) nd_M 0 rfl rfl d_M_river_292 ?_
  refine g_heap e292 ?_
  refine g_aload_n C0 0 d_M_river_295 rfl rfl ?_
  refine g_iconst C0 (v := 0) d_M_river_296 (by decide) ?_
  obtain ⟨h297, e297, hE⟩ := nm_some hE
  refine g_puti C0 CK_11 CT_11 32 (by decide) t_1122 rfl (by decide +kernel) nd_M 0 rfl rfl d_M_river_297 ?_
  refine g_heap e297 ?_
  refine g_aload_n C0 0 d_M_river_300 rfl rfl ?_
  refine g_iconst C0 (v := 0) d_M_river_301 (by decide) ?_
  obtain ⟨h302, e302, hE⟩ := nm_some hE
  refine g_puti C0 CK_11 CT_11 16 (by decide) t_1106 rfl (by decide +kernel) nd_M 0 rfl rfl d_M_river_302 ?_
  refine g_heap e302 ?_
  refine g_aload_n C0 0 d_M_river_305 rfl rfl ?_
  refine g_getr C0 CK_11 1 (by decide) t_1091 0 rfl rfl d_M_river_306 ?_
  refine g_iconst C0 (v := 0) d_M_river_309 (by decide) ?_
  refine g_iconst C0 (v := 0) d_M_river_310 (by decide) ?_
  obtain ⟨q311, hE⟩ := sA_some hE
  obtain ⟨h311, e311, hE⟩ := nm_some hE
  refine g_zast C0 2 rfl nd_M q311 (by decide) d_M_river_311 ?_
  refine g_heap e311 ?_
  refine g_aload_n C0 0 d_M_river_312 rfl rfl ?_
  refine g_getr C0 CK_11 1 (by decide) t_1091 0 rfl rfl d_M_river_313 ?_
  refine g_iconst C0 (v := 1) d_M_river_316 (by decide) ?_
  refine g_iconst C0 (v := 0) d_M_river_317 (by decide) ?_
  obtain ⟨q318, hE⟩ := sA_some hE
  obtain ⟨h318, e318, hE⟩ := nm_some hE
  refine g_zast C0 2 rfl nd_M q318 (by decide) d_M_river_318 ?_
  refine g_heap e318 ?_
  refine g_aload_n C0 0 d_M_river_319 rfl rfl ?_
  refine g_iconst C0 (v := 0) d_M_river_320 (by decide) ?_
  obtain ⟨v321, z321, hE⟩ := bd_some hE
  refine g_calliP C0 nd_M [100, 101, 102, 103, 104, 105, 106, 107, 108, 109, 110, 111, 112, 113, 114, 115] rfl (sbW_self WM) (runV C0 (m_M_squares l K ad h318 0 z321) 1 rfl ⟨t_1248, t_1250, t_49, t_97, t_1251⟩ cd_M_squares (by decide) 0 rfl rfl (sbW_self WM) nd_M rfl rfl (Nat.le_of_ble_eq_true rfl) d_M_river_321) ?_
  obtain rfl := Option.some.inj hE
  exact g_iret C0 hr d_M_river_324
theorem w_M_river_J89 {p : Program} {l : Launch} {e : Env} {s : State} {m : MethodId} {args : Array Value} {below : List Frame} {meth : Method} {c : Code} {K : KT} {A : Nat → Prop} (C0 : Cx p s m args meth c prog_13_method_18_code "CanoeSidesModel" 2 K A) (hr : meth.sig.returnType = (Option.some Jvm.ClassFile.FieldType.int)) {ad : Nat → Nat} (N : Nat) (h : Hp) {res : Int32 × Hp} (hE : K_M_river_J89 N h = some res) : G p l e rm_M_river s m args below meth c K A WM 2 0 0 (QI s args below K A WM 0 0 ad res.1 res.2) 89 [(0, .ref (ad 100))] [] ad h := by
  unfold K_M_river_J89 at hE
  refine g_aload_n C0 0 d_M_river_89 rfl rfl ?_
  refine g_iconst C0 (v := 0) d_M_river_90 (by decide) ?_
  obtain ⟨h91, e91, hE⟩ := nm_some hE
  refine g_puti C0 CK_11 CT_11 7 (by decide) t_1097 rfl (by decide +kernel) nd_M 0 rfl rfl d_M_river_91 ?_
  refine g_heap e91 ?_
  refine g_aload_n C0 0 d_M_river_94 rfl rfl ?_
  refine g_geti C0 CK_11 10 (by decide) t_1100 0 rfl rfl d_M_river_95 ?_
  have hB := ite_some hE
  refine g_if_le C0 (tgt := 109) d_M_river_98 (by decide) (fun c_ => ?_) (fun c_ => ?_)
  · replace hE := hB.1 c_
    refine g_aload_n C0 0 d_M_river_109 rfl rfl ?_
    refine g_bipush C0 (v := 12) d_M_river_110 (by decide) ?_
    obtain ⟨v112, z112, hE⟩ := bd_some hE
    refine g_calliP C0 nd_M [100, 101, 102, 103, 104, 105, 106, 107, 108, 109, 110, 111, 112, 113, 114, 115] rfl (sbW_self WM) (runV C0 (m_M_squares l K ad h91 12 z112) 1 rfl ⟨t_1248, t_1250, t_49, t_97, t_1251⟩ cd_M_squares (by decide) 0 rfl rfl (sbW_self WM) nd_M rfl rfl (Nat.le_of_ble_eq_true rfl) d_M_river_112) ?_
    refine g_iconst C0 (v := 1) d_M_river_115 (by decide) ?_
    refine g_isub C0 d_M_river_116 ?_
    obtain ⟨v117, e117, hE⟩ := nm_some hE
    refine g_top e117 ?_
    refine g_istore_n C0 [(1, .int v117), (0, .ref (ad 100))] d_M_river_117 rfl (by decide) rfl ?_
    refine g_sub [1, 0] (L' := [(0, .ref (ad 100)), (1, .int v117)]) rfl ?_
    obtain ⟨t118, z118, hE⟩ := bd_some hE
    refine loopG (fun z_ : Int32 × Hp => K_M_river_L118 N z_.1 z_.2) (fun z_ : Int32 × Hp => G p l e rm_M_river s m args below meth c K A WM 2 0 0 _ 118 [(0, .ref (ad 100)), (1, .int z_.1)] [] ad z_.2) (fun z_ : Hp => G p l e rm_M_river s m args below meth c K A WM 2 0 0 _ 170 [(0, .ref (ad 100))] [] ad z_) (fun z_ x_ hz k1 k2 => w_M_river_L118 C0 hr N z_.1 z_.2 hz k1 k2) _ _ _ z118 ?_
    try dsimp only
    exact w_M_river_J170 C0 hr N t118 hE
  · replace hE := hB.2 c_
    refine g_bipush C0 (v := (-10)) d_M_river_101 (by decide) ?_
    refine g_aload_n C0 0 d_M_river_103 rfl rfl ?_
    refine g_geti C0 CK_11 10 (by decide) t_1100 0 rfl rfl d_M_river_104 ?_
    refine g_isub C0 d_M_river_107 ?_
    obtain rfl := Option.some.inj hE
    exact g_iret C0 hr d_M_river_108
theorem w_M_river {p : Program} {l : Launch} {e : Env} {s : State} {m : MethodId} {args : Array Value} {below : List Frame} {meth : Method} {c : Code} {K : KT} {A : Nat → Prop} (C0 : Cx p s m args meth c prog_13_method_18_code "CanoeSidesModel" 2 K A) (hr : meth.sig.returnType = (Option.some Jvm.ClassFile.FieldType.int)) {ad : Nat → Nat} (N : Nat) (h : Hp) {res : Int32 × Hp} (hE : K_M_river N h = some res) : G p l e rm_M_river s m args below meth c K A WM 2 0 0 (QI s args below K A WM 0 0 ad res.1 res.2) 0 [(0, .ref (ad 100))] [] ad h := by
  unfold K_M_river at hE
  refine g_aload_n C0 0 d_M_river_0 rfl rfl ?_
  refine g_iconst C0 (v := 0) d_M_river_1 (by decide) ?_
  obtain ⟨h2, e2, hE⟩ := nm_some hE
  refine g_puti C0 CK_11 CT_11 8 (by decide) t_1098 rfl (by decide +kernel) nd_M 0 rfl rfl d_M_river_2 ?_
  refine g_heap e2 ?_
  refine g_aload_n C0 0 d_M_river_5 rfl rfl ?_
  refine g_iconst C0 (v := 0) d_M_river_6 (by decide) ?_
  obtain ⟨h7, e7, hE⟩ := nm_some hE
  refine g_puti C0 CK_11 CT_11 10 (by decide) t_1100 rfl (by decide +kernel) nd_M 0 rfl rfl d_M_river_7 ?_
  refine g_heap e7 ?_
  refine g_aload_n C0 0 d_M_river_10 rfl rfl ?_
  refine g_iconst C0 (v := (-1)) d_M_river_11 (by decide) ?_
  obtain ⟨h12, e12, hE⟩ := nm_some hE
  refine g_puti C0 CK_11 CT_11 11 (by decide) t_1101 rfl (by decide +kernel) nd_M 0 rfl rfl d_M_river_12 ?_
  refine g_heap e12 ?_
  refine g_aload_n C0 0 d_M_river_15 rfl rfl ?_
  refine g_iconst C0 (v := 0) d_M_river_16 (by decide) ?_
  obtain ⟨h17, e17, hE⟩ := nm_some hE
  refine g_puti C0 CK_11 CT_11 5 (by decide) t_1095 rfl (by decide +kernel) nd_M 0 rfl rfl d_M_river_17 ?_
  refine g_heap e17 ?_
  refine g_aload_n C0 0 d_M_river_20 rfl rfl ?_
  refine g_iconst C0 (v := 1) d_M_river_21 (by decide) ?_
  obtain ⟨h22, z22, hE⟩ := bd_some hE
  refine g_callv C0 nd_M [100, 101, 102, 103, 104, 105, 106, 107, 108, 109, 110, 111, 112, 113, 114, 115] rfl (sbW_self WM) (runV C0 (m_M_tellNothing l K ad h17 N 1 z22) 1 rfl ⟨t_1086, t_1088, t_41, t_97, t_1089⟩ cd_M_tellNothing (by decide) 0 rfl rfl (sbW_self WM) nd_M rfl rfl (Nat.le_of_ble_eq_true rfl) d_M_river_22) ?_
  refine g_mx [100, 101, 102, 103, 104, 105, 106, 107, 108, 109, 110, 111, 112, 113, 114, 115] rfl ?_
  obtain ⟨t25, z25, hE⟩ := bd_some hE
  refine loopG (fun z_ : Hp => K_M_river_L25 N z_) (fun z_ : Hp => G p l e rm_M_river s m args below meth c K A WM 2 0 0 _ 25 [(0, .ref (ad 100))] [] ad z_) (fun z_ : Hp => G p l e rm_M_river s m args below meth c K A WM 2 0 0 _ 89 [(0, .ref (ad 100))] [] ad z_) (fun z_ x_ hz k1 k2 => w_M_river_L25 C0 hr N z_ hz k1 k2) _ _ _ z25 ?_
  try dsimp only
  exact w_M_river_J89 C0 hr N t25 hE
theorem m_M_river (l : Launch) (K : KT) (ad : Nat → Nat) (h : Hp) (N : Nat) {res : Int32 × Hp} (hE : K_M_river N h = some res) : ConI l y_M_river prog_13_method_18_code 2 (Option.some Jvm.ClassFile.FieldType.int) rm_M_river K WM ad h [.ref (ad 100)] res.1 res.2 := fun sz =>
  con_start [(0, .ref (ad 100))] (by decide +kernel) rfl (Nat.le_of_ble_eq_true rfl) (fun p e s m args below meth c C0 hr hnm hsz => w_M_river C0 hr N h hE)
