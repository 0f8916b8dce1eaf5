/-! walks, by program -/
abbrev y_C_back : MethodName := ⟨"CanoeSides", "back", "(I)I"⟩
abbrev rm_C_back : Room := { frames := 2, cells := 0, slots := 0, locals := 43 }
theorem cd_C_back : cwd y_C_back 1 := by decide +kernel
theorem d_C_back_0 : decode prog_1_method_10_code 0 = .ok (.iload_n 1, 1) := by decide +kernel
theorem d_C_back_1 : decode prog_1_method_10_code 1 = .ok (.iconst 1, 1) := by decide +kernel
theorem d_C_back_2 : decode prog_1_method_10_code 2 = .ok (.bipush 50, 2) := by decide +kernel
theorem d_C_back_4 : decode prog_1_method_10_code 4 = .ok (.invokestatic 96, 3) := by decide +kernel
theorem d_C_back_7 : decode prog_1_method_10_code 7 = .ok (.ifCond .eq 6, 3) := by decide +kernel
theorem d_C_back_10 : decode prog_1_method_10_code 10 = .ok (.ldc 100, 2) := by decide +kernel
theorem d_C_back_12 : decode prog_1_method_10_code 12 = .ok (.ireturn, 1) := by decide +kernel
theorem d_C_back_13 : decode prog_1_method_10_code 13 = .ok (.iload_n 1, 1) := by decide +kernel
theorem d_C_back_14 : decode prog_1_method_10_code 14 = .ok (.aload_n 0, 1) := by decide +kernel
theorem d_C_back_15 : decode prog_1_method_10_code 15 = .ok (.getfield 60, 3) := by decide +kernel
theorem d_C_back_18 : decode prog_1_method_10_code 18 = .ok (.getfield 177, 3) := by decide +kernel
theorem d_C_back_21 : decode prog_1_method_10_code 21 = .ok (.if_icmp .le 6, 3) := by decide +kernel
theorem d_C_back_24 : decode prog_1_method_10_code 24 = .ok (.ldc 147, 2) := by decide +kernel
theorem d_C_back_26 : decode prog_1_method_10_code 26 = .ok (.ireturn, 1) := by decide +kernel
theorem d_C_back_27 : decode prog_1_method_10_code 27 = .ok (.aload_n 0, 1) := by decide +kernel
theorem d_C_back_28 : decode prog_1_method_10_code 28 = .ok (.getfield 49, 3) := by decide +kernel
theorem d_C_back_31 : decode prog_1_method_10_code 31 = .ok (.aload_n 0, 1) := by decide +kernel
theorem d_C_back_32 : decode prog_1_method_10_code 32 = .ok (.getfield 60, 3) := by decide +kernel
theorem d_C_back_35 : decode prog_1_method_10_code 35 = .ok (.iload_n 1, 1) := by decide +kernel
theorem d_C_back_36 : decode prog_1_method_10_code 36 = .ok (.invokevirtual 180, 3) := by decide +kernel
theorem d_C_back_39 : decode prog_1_method_10_code 39 = .ok (.putfield 152, 3) := by decide +kernel
theorem d_C_back_42 : decode prog_1_method_10_code 42 = .ok (.aload_n 0, 1) := by decide +kernel
theorem d_C_back_43 : decode prog_1_method_10_code 43 = .ok (.getfield 49, 3) := by decide +kernel
theorem d_C_back_46 : decode prog_1_method_10_code 46 = .ok (.dup, 1) := by decide +kernel
theorem d_C_back_47 : decode prog_1_method_10_code 47 = .ok (.getfield 183, 3) := by decide +kernel
theorem d_C_back_50 : decode prog_1_method_10_code 50 = .ok (.iload_n 1, 1) := by decide +kernel
theorem d_C_back_51 : decode prog_1_method_10_code 51 = .ok (.isub, 1) := by decide +kernel
theorem d_C_back_52 : decode prog_1_method_10_code 52 = .ok (.putfield 183, 3) := by decide +kernel
theorem d_C_back_55 : decode prog_1_method_10_code 55 = .ok (.aload_n 0, 1) := by decide +kernel
theorem d_C_back_56 : decode prog_1_method_10_code 56 = .ok (.getfield 49, 3) := by decide +kernel
theorem d_C_back_59 : decode prog_1_method_10_code 59 = .ok (.getfield 183, 3) := by decide +kernel
theorem d_C_back_62 : decode prog_1_method_10_code 62 = .ok (.ireturn, 1) := by decide +kernel
theorem w_C_back {p : Program} {l : Launch} {e : Env} {s : State} {m : MethodId} {args : Array Value} {below : List Frame} {meth : Method} {c : Code} {K : KT} {A : Nat → Prop} (C0 : Cx p s m args meth c prog_1_method_10_code "CanoeSides" 2 K A) (hr : meth.sig.returnType = (Option.some Jvm.ClassFile.FieldType.int)) {ad : Nat → Nat} (a0 : Int32) (h : Hp) {res : Int32 × Hp} (hE : K_C_back a0 h = some res) : G p l e rm_C_back s m args below meth c K A WC 2 0 0 (QI s args below K A WC 0 0 ad res.1 res.2) 0 [(0, .ref (ad 0)), (1, .int a0)] [] ad h := by
  unfold K_C_back at hE
  refine g_iload_n C0 1 d_C_back_0 rfl rfl ?_
  refine g_iconst C0 (v := 1) d_C_back_1 (by decide) ?_
  refine g_bipush C0 (v := 50) d_C_back_2 (by decide) ?_
  obtain ⟨v4, z4, hE⟩ := bd_some hE
  refine g_calliP C0 nd_C [] rfl (sb_E_C) (runS C0 (m_C_isOutside l K ad h a0 1 50 z4) 3 ⟨t_499, t_500, t_85, t_501⟩ cd_C_isOutside (by decide) (sb_E_C) nd_E rfl rfl (Nat.le_of_ble_eq_true rfl) d_C_back_4) ?_
  have hB := ite_some hE
  refine g_if_eq C0 (tgt := 13) d_C_back_7 (by decide) (fun c_ => ?_) (fun c_ => ?_)
  · replace hE := hB.1 c_
    refine g_iload_n C0 1 d_C_back_13 rfl rfl ?_
    refine g_aload_n C0 0 d_C_back_14 rfl rfl ?_
    refine g_getr C0 CK_10 9 (by decide) t_461 0 rfl rfl d_C_back_15 ?_
    refine g_getiN C0 CK_5 2 (by decide) t_257 16 rfl rfl d_C_back_18 ?_
    have hB := ite_some hE
    refine g_icmp_le C0 (tgt := 27) d_C_back_21 (by decide) (fun c_ => ?_) (fun c_ => ?_)
    · replace hE := hB.1 c_
      refine g_aload_n C0 0 d_C_back_27 rfl rfl ?_
      refine g_getr C0 CK_10 7 (by decide) t_459 0 rfl rfl d_C_back_28 ?_
      refine g_aload_n C0 0 d_C_back_31 rfl rfl ?_
      refine g_getr C0 CK_10 9 (by decide) t_461 0 rfl rfl d_C_back_32 ?_
      refine g_iload_n C0 1 d_C_back_35 rfl rfl ?_
      obtain ⟨v36, h36, z36, hE⟩ := bd2_some hE
      refine g_calli C0 nd_C [35, 36] rfl (sb_Log_C) (runV C0 (m_Log_takeBack l K ad h a0 z36) 1 rfl ⟨t_814, t_815, t_816, t_91, t_817⟩ cd_Log_takeBack (by decide) 16 rfl rfl (sb_Log_C) nd_Log rfl rfl (Nat.le_of_ble_eq_true rfl) d_C_back_36) ?_
      obtain ⟨h36m, e36, hE⟩ := nm_some hE
      refine g_heap e36 ?_
      obtain ⟨h39, e39, hE⟩ := nm_some hE
      refine g_putiN C0 CK_0 CT_0 0 (by decide) t_235 rfl (by decide +kernel) nd_C 14 rfl rfl d_C_back_39 ?_
      refine g_heap e39 ?_
      refine g_aload_n C0 0 d_C_back_42 rfl rfl ?_
      refine g_getr C0 CK_10 7 (by decide) t_459 0 rfl rfl d_C_back_43 ?_
      refine g_dup C0 d_C_back_46 rfl ?_
      refine g_getiN C0 CK_0 1 (by decide) t_237 14 rfl rfl d_C_back_47 ?_
      refine g_iload_n C0 1 d_C_back_50 rfl rfl ?_
      refine g_isub C0 d_C_back_51 ?_
      obtain ⟨h52, e52, hE⟩ := nm_some hE
      refine g_putiN C0 CK_0 CT_0 1 (by decide) t_237 rfl (by decide +kernel) nd_C 14 rfl rfl d_C_back_52 ?_
      refine g_heap e52 ?_
      refine g_aload_n C0 0 d_C_back_55 rfl rfl ?_
      refine g_getr C0 CK_10 7 (by decide) t_459 0 rfl rfl d_C_back_56 ?_
      refine g_getiN C0 CK_0 1 (by decide) t_237 14 rfl rfl d_C_back_59 ?_
      obtain rfl := Option.some.inj hE
      exact g_iret C0 hr d_C_back_62
    · replace hE := hB.2 c_
      refine g_ldc C0 (v := (-1000000003)) t_759 d_C_back_24 ?_
      obtain rfl := Option.some.inj hE
      exact g_iret C0 hr d_C_back_26
  · replace hE := hB.2 c_
    refine g_ldc C0 (v := (-1000000002)) t_502 d_C_back_10 ?_
    obtain rfl := Option.some.inj hE
    exact g_iret C0 hr d_C_back_12
theorem m_C_back (l : Launch) (K : KT) (ad : Nat → Nat) (h : Hp) (a0 : Int32) {res : Int32 × Hp} (hE : K_C_back a0 h = some res) : ConI l y_C_back prog_1_method_10_code 2 (Option.some Jvm.ClassFile.FieldType.int) rm_C_back K WC ad h [.ref (ad 0), .int a0] res.1 res.2 := fun sz =>
  con_start [(0, .ref (ad 0)), (1, .int a0)] (by decide +kernel) rfl (Nat.le_of_ble_eq_true rfl) (fun p e s m args below meth c C0 hr hnm hsz => w_C_back C0 hr a0 h hE)
abbrev y_C_set : MethodName := ⟨"CanoeSides", "set", "(III)I"⟩
abbrev rm_C_set : Room := { frames := 1, cells := 0, slots := 0, locals := 22 }
theorem cd_C_set : cwd y_C_set 3 := by decide +kernel
theorem d_C_set_0 : decode prog_1_method_11_code 0 = .ok (.aload_n 0, 1) := by decide +kernel
theorem d_C_set_1 : decode prog_1_method_11_code 1 = .ok (.getfield 23, 3) := by decide +kernel
theorem d_C_set_4 : decode prog_1_method_11_code 4 = .ok (.iload_n 1, 1) := by decide +kernel
theorem d_C_set_5 : decode prog_1_method_11_code 5 = .ok (.iload_n 2, 1) := by decide +kernel
theorem d_C_set_6 : decode prog_1_method_11_code 6 = .ok (.invokevirtual 131, 3) := by decide +kernel
theorem d_C_set_9 : decode prog_1_method_11_code 9 = .ok (.ifCond .ne 6, 3) := by decide +kernel
theorem d_C_set_12 : decode prog_1_method_11_code 12 = .ok (.ldc 138, 2) := by decide +kernel
theorem d_C_set_14 : decode prog_1_method_11_code 14 = .ok (.ireturn, 1) := by decide +kernel
theorem d_C_set_15 : decode prog_1_method_11_code 15 = .ok (.iload_n 3, 1) := by decide +kernel
theorem d_C_set_16 : decode prog_1_method_11_code 16 = .ok (.iconst 0, 1) := by decide +kernel
theorem d_C_set_17 : decode prog_1_method_11_code 17 = .ok (.bipush 7, 2) := by decide +kernel
theorem d_C_set_19 : decode prog_1_method_11_code 19 = .ok (.invokestatic 96, 3) := by decide +kernel
theorem d_C_set_22 : decode prog_1_method_11_code 22 = .ok (.ifCond .eq 6, 3) := by decide +kernel
theorem d_C_set_25 : decode prog_1_method_11_code 25 = .ok (.ldc 100, 2) := by decide +kernel
theorem d_C_set_27 : decode prog_1_method_11_code 27 = .ok (.ireturn, 1) := by decide +kernel
theorem d_C_set_28 : decode prog_1_method_11_code 28 = .ok (.iload_n 2, 1) := by decide +kernel
theorem d_C_set_29 : decode prog_1_method_11_code 29 = .ok (.bipush 8, 2) := by decide +kernel
theorem d_C_set_31 : decode prog_1_method_11_code 31 = .ok (.imul, 1) := by decide +kernel
theorem d_C_set_32 : decode prog_1_method_11_code 32 = .ok (.iload_n 1, 1) := by decide +kernel
theorem d_C_set_33 : decode prog_1_method_11_code 33 = .ok (.iadd, 1) := by decide +kernel
theorem d_C_set_34 : decode prog_1_method_11_code 34 = .ok (.istore 4, 2) := by decide +kernel
theorem d_C_set_36 : decode prog_1_method_11_code 36 = .ok (.aload_n 0, 1) := by decide +kernel
theorem d_C_set_37 : decode prog_1_method_11_code 37 = .ok (.getfield 23, 3) := by decide +kernel
theorem d_C_set_40 : decode prog_1_method_11_code 40 = .ok (.iload 4, 2) := by decide +kernel
theorem d_C_set_42 : decode prog_1_method_11_code 42 = .ok (.invokevirtual 135, 3) := by decide +kernel
theorem d_C_set_45 : decode prog_1_method_11_code 45 = .ok (.iconst 1, 1) := by decide +kernel
theorem d_C_set_46 : decode prog_1_method_11_code 46 = .ok (.if_icmp .ne 6, 3) := by decide +kernel
theorem d_C_set_49 : decode prog_1_method_11_code 49 = .ok (.ldc 147, 2) := by decide +kernel
theorem d_C_set_51 : decode prog_1_method_11_code 51 = .ok (.ireturn, 1) := by decide +kernel
theorem d_C_set_52 : decode prog_1_method_11_code 52 = .ok (.aload_n 0, 1) := by decide +kernel
theorem d_C_set_53 : decode prog_1_method_11_code 53 = .ok (.getfield 49, 3) := by decide +kernel
theorem d_C_set_56 : decode prog_1_method_11_code 56 = .ok (.getfield 152, 3) := by decide +kernel
theorem d_C_set_59 : decode prog_1_method_11_code 59 = .ok (.bipush 8, 2) := by decide +kernel
theorem d_C_set_61 : decode prog_1_method_11_code 61 = .ok (.idiv, 1) := by decide +kernel
theorem d_C_set_62 : decode prog_1_method_11_code 62 = .ok (.invokestatic 155, 3) := by decide +kernel
theorem d_C_set_65 : decode prog_1_method_11_code 65 = .ok (.istore 5, 2) := by decide +kernel
theorem d_C_set_67 : decode prog_1_method_11_code 67 = .ok (.aload_n 0, 1) := by decide +kernel
theorem d_C_set_68 : decode prog_1_method_11_code 68 = .ok (.getfield 49, 3) := by decide +kernel
theorem d_C_set_71 : decode prog_1_method_11_code 71 = .ok (.iload 4, 2) := by decide +kernel
theorem d_C_set_73 : decode prog_1_method_11_code 73 = .ok (.bipush 8, 2) := by decide +kernel
theorem d_C_set_75 : decode prog_1_method_11_code 75 = .ok (.imul, 1) := by decide +kernel
theorem d_C_set_76 : decode prog_1_method_11_code 76 = .ok (.iload_n 3, 1) := by decide +kernel
theorem d_C_set_77 : decode prog_1_method_11_code 77 = .ok (.iadd, 1) := by decide +kernel
theorem d_C_set_78 : decode prog_1_method_11_code 78 = .ok (.putfield 152, 3) := by decide +kernel
theorem d_C_set_81 : decode prog_1_method_11_code 81 = .ok (.iload 5, 2) := by decide +kernel
theorem d_C_set_83 : decode prog_1_method_11_code 83 = .ok (.ireturn, 1) := by decide +kernel
theorem w_C_set {p : Program} {l : Launch} {e : Env} {s : State} {m : MethodId} {args : Array Value} {below : List Frame} {meth : Method} {c : Code} {K : KT} {A : Nat → Prop} (C0 : Cx p s m args meth c prog_1_method_11_code "CanoeSides" 6 K A) (hr : meth.sig.returnType = (Option.some Jvm.ClassFile.FieldType.int)) {ad : Nat → Nat} (a0 : Int32) (b0 : Int32) (c0 : Int32) (h : Hp) {res : Int32 × Hp} (hE : K_C_set a0 b0 c0 h = some res) : G p l e rm_C_set s m args below meth c K A WC 6 0 0 (QI s args below K A WC 0 0 ad res.1 res.2) 0 [(0, .ref (ad 0)), (1, .int a0), (2, .int b0), (3, .int c0)] [] ad h := by
  unfold K_C_set at hE
  refine g_aload_n C0 0 d_C_set_0 rfl rfl ?_
  refine g_getr C0 CK_10 3 (by decide) t_455 0 rfl rfl d_C_set_1 ?_
  refine g_iload_n C0 1 d_C_set_4 rfl rfl ?_
  refine g_iload_n C0 2 d_C_set_5 rfl rfl ?_
  obtain ⟨v6, z6, hE⟩ := bd_some hE
  refine g_calliP C0 nd_C [10, 11, 12] rfl (sb_River_C) (runV C0 (m_River_has l K ad h a0 b0 z6) 2 rfl ⟨t_737, t_738, t_739, t_86, t_740⟩ cd_River_has (by decide) 2 rfl rfl (sb_River_C) nd_River rfl rfl (Nat.le_of_ble_eq_true rfl) d_C_set_6) ?_
  have hB := ite_some hE
  refine g_if_ne C0 (tgt := 15) d_C_set_9 (by decide) (fun c_ => ?_) (fun c_ => ?_)
  · replace hE := hB.2 c_
    refine g_iload_n C0 3 d_C_set_15 rfl rfl ?_
    refine g_iconst C0 (v := 0) d_C_set_16 (by decide) ?_
    refine g_bipush C0 (v := 7) d_C_set_17 (by decide) ?_
    obtain ⟨v19, z19, hE⟩ := bd_some hE
    refine g_calliP C0 nd_C [] rfl (sb_E_C) (runS C0 (m_C_isOutside l K ad h c0 0 7 z19) 3 ⟨t_499, t_500, t_85, t_501⟩ cd_C_isOutside (by decide) (sb_E_C) nd_E rfl rfl (Nat.le_of_ble_eq_true rfl) d_C_set_19) ?_
    have hB := ite_some hE
    refine g_if_eq C0 (tgt := 28) d_C_set_22 (by decide) (fun c_ => ?_) (fun c_ => ?_)
    · replace hE := hB.1 c_
      refine g_iload_n C0 2 d_C_set_28 rfl rfl ?_
      refine g_bipush C0 (v := 8) d_C_set_29 (by decide) ?_
      refine g_imul C0 d_C_set_31 ?_
      refine g_iload_n C0 1 d_C_set_32 rfl rfl ?_
      refine g_iadd C0 d_C_set_33 ?_
      obtain ⟨v34, e34, hE⟩ := nm_some hE
      refine g_top e34 ?_
      refine g_istore C0 [(4, .int v34), (0, .ref (ad 0)), (1, .int a0), (2, .int b0), (3, .int c0)] d_C_set_34 (by decide) rfl ?_
      refine g_aload_n C0 1 d_C_set_36 rfl rfl ?_
      refine g_getr C0 CK_10 3 (by decide) t_455 0 rfl rfl d_C_set_37 ?_
      refine g_iload C0 0 d_C_set_40 rfl ?_
      obtain ⟨v42, z42, hE⟩ := bd_some hE
      refine g_calliP C0 nd_C [10, 11, 12] rfl (sb_River_C) (runV C0 (m_River_kindOf l K ad h v34 z42) 1 rfl ⟨t_741, t_408, t_409, t_86, t_410⟩ cd_River_kindOf (by decide) 2 rfl rfl (sb_River_C) nd_River rfl rfl (Nat.le_of_ble_eq_true rfl) d_C_set_42) ?_
      refine g_iconst C0 (v := 1) d_C_set_45 (by decide) ?_
      have hB := ite_some hE
      refine g_icmp_ne C0 (tgt := 52) d_C_set_46 (by decide) (fun c_ => ?_) (fun c_ => ?_)
      · replace hE := hB.2 c_
        refine g_aload_n C0 1 d_C_set_52 rfl rfl ?_
        refine g_getr C0 CK_10 7 (by decide) t_459 0 rfl rfl d_C_set_53 ?_
        refine g_getiN C0 CK_0 0 (by decide) t_235 14 rfl rfl d_C_set_56 ?_
        refine g_bipush C0 (v := 8) d_C_set_59 (by decide) ?_
        refine g_idiv C0 d_C_set_61 (by decide) ?_
        obtain ⟨v62, z62, hE⟩ := bd_some hE
        refine g_calliP C0 nd_C [] rfl (sb_E_C) (runS C0 (m_C_placeOf l K ad h ((h 30 0) / 8) z62) 1 ⟨t_719, t_720, t_85, t_721⟩ cd_C_placeOf (by decide) (sb_E_C) nd_E rfl rfl (Nat.le_of_ble_eq_true rfl) d_C_set_62) ?_
        refine g_istore C0 [(5, .int v62), (4, .int v34), (0, .ref (ad 0)), (1, .int a0), (2, .int b0), (3, .int c0)] d_C_set_65 (by decide) rfl ?_
        refine g_aload_n C0 2 d_C_set_67 rfl rfl ?_
        refine g_getr C0 CK_10 7 (by decide) t_459 0 rfl rfl d_C_set_68 ?_
        refine g_iload C0 1 d_C_set_71 rfl ?_
        refine g_bipush C0 (v := 8) d_C_set_73 (by decide) ?_
        refine g_imul C0 d_C_set_75 ?_
        refine g_iload_n C0 5 d_C_set_76 rfl rfl ?_
        refine g_iadd C0 d_C_set_77 ?_
        obtain ⟨h78, e78, hE⟩ := nm_some hE
        refine g_putiN C0 CK_0 CT_0 0 (by decide) t_235 rfl (by decide +kernel) nd_C 14 rfl rfl d_C_set_78 ?_
        refine g_heap e78 ?_
        refine g_iload C0 0 d_C_set_81 rfl ?_
        obtain rfl := Option.some.inj hE
        exact g_iret C0 hr d_C_set_83
      · replace hE := hB.1 c_
        refine g_ldc C0 (v := (-1000000003)) t_759 d_C_set_49 ?_
        obtain rfl := Option.some.inj hE
        exact g_iret C0 hr d_C_set_51
    · replace hE := hB.2 c_
      refine g_ldc C0 (v := (-1000000002)) t_502 d_C_set_25 ?_
      obtain rfl := Option.some.inj hE
      exact g_iret C0 hr d_C_set_27
  · replace hE := hB.1 c_
    refine g_ldc C0 (v := (-1000000001)) t_742 d_C_set_12 ?_
    obtain rfl := Option.some.inj hE
    exact g_iret C0 hr d_C_set_14
theorem m_C_set (l : Launch) (K : KT) (ad : Nat → Nat) (h : Hp) (a0 : Int32) (b0 : Int32) (c0 : Int32) {res : Int32 × Hp} (hE : K_C_set a0 b0 c0 h = some res) : ConI l y_C_set prog_1_method_11_code 6 (Option.some Jvm.ClassFile.FieldType.int) rm_C_set K WC ad h [.ref (ad 0), .int a0, .int b0, .int c0] res.1 res.2 := fun sz =>
  con_start [(0, .ref (ad 0)), (1, .int a0), (2, .int b0), (3, .int c0)] (by decide +kernel) rfl (Nat.le_of_ble_eq_true rfl) (fun p e s m args below meth c C0 hr hnm hsz => w_C_set C0 hr a0 b0 c0 h hE)
abbrev y_C_drift : MethodName := ⟨"CanoeSides", "drift", "(I)I"⟩
abbrev rm_C_drift : Room := { frames := 4, cells := 0, slots := 0, locals := 95 }
theorem cd_C_drift : cwd y_C_drift 1 := by decide +kernel
theorem d_C_drift_0 : decode prog_1_method_12_code 0 = .ok (.iload_n 1, 1) := by decide +kernel
theorem d_C_drift_1 : decode prog_1_method_12_code 1 = .ok (.iconst 1, 1) := by decide +kernel
theorem d_C_drift_2 : decode prog_1_method_12_code 2 = .ok (.bipush 99, 2) := by decide +kernel
theorem d_C_drift_4 : decode prog_1_method_12_code 4 = .ok (.invokestatic 96, 3) := by decide +kernel
theorem d_C_drift_7 : decode prog_1_method_12_code 7 = .ok (.ifCond .eq 6, 3) := by decide +kernel
theorem d_C_drift_10 : decode prog_1_method_12_code 10 = .ok (.ldc 100, 2) := by decide +kernel
theorem d_C_drift_12 : decode prog_1_method_12_code 12 = .ok (.ireturn, 1) := by decide +kernel
theorem d_C_drift_13 : decode prog_1_method_12_code 13 = .ok (.aload_n 0, 1) := by decide +kernel
theorem d_C_drift_14 : decode prog_1_method_12_code 14 = .ok (.invokevirtual 143, 3) := by decide +kernel
theorem d_C_drift_17 : decode prog_1_method_12_code 17 = .ok (.ifCond .eq 6, 3) := by decide +kernel
theorem d_C_drift_20 : decode prog_1_method_12_code 20 = .ok (.ldc 147, 2) := by decide +kernel
theorem d_C_drift_22 : decode prog_1_method_12_code 22 = .ok (.ireturn, 1) := by decide +kernel
theorem d_C_drift_23 : decode prog_1_method_12_code 23 = .ok (.iconst 0, 1) := by decide +kernel
theorem d_C_drift_24 : decode prog_1_method_12_code 24 = .ok (.istore_n 2, 1) := by decide +kernel
theorem d_C_drift_25 : decode prog_1_method_12_code 25 = .ok (.iload_n 2, 1) := by decide +kernel
theorem d_C_drift_26 : decode prog_1_method_12_code 26 = .ok (.iload_n 1, 1) := by decide +kernel
theorem d_C_drift_27 : decode prog_1_method_12_code 27 = .ok (.if_icmp .ge 22, 3) := by decide +kernel
theorem d_C_drift_30 : decode prog_1_method_12_code 30 = .ok (.aload_n 0, 1) := by decide +kernel
theorem d_C_drift_31 : decode prog_1_method_12_code 31 = .ok (.aload_n 0, 1) := by decide +kernel
theorem d_C_drift_32 : decode prog_1_method_12_code 32 = .ok (.getfield 49, 3) := by decide +kernel
theorem d_C_drift_35 : decode prog_1_method_12_code 35 = .ok (.bipush 16, 2) := by decide +kernel
theorem d_C_drift_37 : decode prog_1_method_12_code 37 = .ok (.invokevirtual 186, 3) := by decide +kernel
theorem d_C_drift_40 : decode prog_1_method_12_code 40 = .ok (.invokevirtual 148, 3) := by decide +kernel
theorem d_C_drift_43 : decode prog_1_method_12_code 43 = .ok (.iinc 2 1, 3) := by decide +kernel
theorem d_C_drift_46 : decode prog_1_method_12_code 46 = .ok (.goto (-21), 3) := by decide +kernel
theorem d_C_drift_49 : decode prog_1_method_12_code 49 = .ok (.aload_n 0, 1) := by decide +kernel
theorem d_C_drift_50 : decode prog_1_method_12_code 50 = .ok (.getfield 49, 3) := by decide +kernel
theorem d_C_drift_53 : decode prog_1_method_12_code 53 = .ok (.getfield 152, 3) := by decide +kernel
theorem d_C_drift_56 : decode prog_1_method_12_code 56 = .ok (.bipush 8, 2) := by decide +kernel
theorem d_C_drift_58 : decode prog_1_method_12_code 58 = .ok (.idiv, 1) := by decide +kernel
theorem d_C_drift_59 : decode prog_1_method_12_code 59 = .ok (.invokestatic 155, 3) := by decide +kernel
theorem d_C_drift_62 : decode prog_1_method_12_code 62 = .ok (.ireturn, 1) := by decide +kernel
theorem w_C_drift_L25 {p : Program} {l : Launch} {e : Env} {s : State} {m : MethodId} {args : Array Value} {below : List Frame} {meth : Method} {c : Code} {K : KT} {A : Nat → Prop} {Q : State → Prop} (C0 : Cx p s m args meth c prog_1_method_12_code "CanoeSides" 3 K A) (hr : meth.sig.returnType = (Option.some Jvm.ClassFile.FieldType.int)) {ad : Nat → Nat} (N : Nat) (x1 : Int32) (x2 : Int32) (h : Hp) {x_ : (Int32 × Hp) ⊕ (Hp)} (hE : K_C_drift_L25 N x1 x2 h = some x_) (hk1 : ∀ z_, x_ = .inl z_ → G p l e rm_C_drift s m args below meth c K A WC 3 0 0 Q 25 [(0, .ref (ad 0)), (1, .int x1), (2, .int z_.1)] [] ad z_.2) (hk3 : ∀ z_, x_ = .inr z_ → G p l e rm_C_drift s m args below meth c K A WC 3 0 0 Q 49 [(0, .ref (ad 0))] [] ad z_) : G p l e rm_C_drift s m args below meth c K A WC 3 0 0 Q 25 [(0, .ref (ad 0)), (1, .int x1), (2, .int x2)] [] ad h := by
  unfold K_C_drift_L25 at hE
  refine g_iload_n C0 2 d_C_drift_25 rfl rfl ?_
  refine g_iload_n C0 1 d_C_drift_26 rfl rfl ?_
  have hB := ite_some hE
  refine g_icmp_ge C0 (tgt := 49) d_C_drift_27 (by decide) (fun c_ => ?_) (fun c_ => ?_)
  · replace hE := hB.1 c_
    refine g_sub [0] (L' := [(0, .ref (ad 0))]) rfl ?_
    exact hk3 _ (Option.some.inj hE).symm
  · replace hE := hB.2 c_
    refine g_aload_n C0 0 d_C_drift_30 rfl rfl ?_
    refine g_aload_n C0 0 d_C_drift_31 rfl rfl ?_
    refine g_getr C0 CK_10 7 (by decide) t_459 0 rfl rfl d_C_drift_32 ?_
    refine g_bipush C0 (v := 16) d_C_drift_35 (by decide) ?_
    obtain ⟨v37, h37, z37, hE⟩ := bd2_some hE
    refine g_calli C0 nd_C [30] rfl (sb_Boat_C) (runV C0 (m_Boat_draw l K ad h 16 z37) 1 rfl ⟨t_829, t_830, t_831, t_90, t_832⟩ cd_Boat_draw (by decide) 14 rfl rfl (sb_Boat_C) nd_Boat rfl rfl (Nat.le_of_ble_eq_true rfl) d_C_drift_37) ?_
    obtain ⟨h37m, e37, hE⟩ := nm_some hE
    refine g_heap e37 ?_
    obtain ⟨h40, z40, hE⟩ := bd_some hE
    refine g_callv C0 nd_C [0, 2, 10, 11, 12, 15, 16, 17, 20, 21, 22, 25, 26, 27, 30, 33, 35, 36, 40, 41, 42, 43, 45, 46, 47, 48, 49, 55, 56, 60, 61, 62, 63, 64] rfl (sbW_self WC) (runV C0 (m_C_paddle l K ad h37m v37 z40) 1 rfl ⟨t_760, t_762, t_19, t_85, t_763⟩ cd_C_paddle (by decide) 0 rfl rfl (sbW_self WC) nd_C rfl rfl (Nat.le_of_ble_eq_true rfl) d_C_drift_40) ?_
    refine g_mx [0, 2, 10, 11, 12, 15, 16, 17, 20, 21, 22, 25, 26, 27, 30, 33, 35, 36, 40, 41, 42, 43, 45, 46, 47, 48, 49, 55, 56, 60, 61, 62, 63, 64] rfl ?_
    obtain ⟨v43, e43, hE⟩ := nm_some hE
    refine g_iinc C0 2 [(2, .int v43), (0, .ref (ad 0)), (1, .int x1)] d_C_drift_43 rfl (by rw [e43]; rfl) (by decide) rfl ?_
    refine g_goto C0 (tgt := 25) d_C_drift_46 (by decide) ?_
    refine g_sub [1, 2, 0] (L' := [(0, .ref (ad 0)), (1, .int x1), (2, .int v43)]) rfl ?_
    exact hk1 _ (Option.some.inj hE).symm
theorem w_C_drift {p : Program} {l : Launch} {e : Env} {s : State} {m : MethodId} {args : Array Value} {below : List Frame} {meth : Method} {c : Code} {K : KT} {A : Nat → Prop} (C0 : Cx p s m args meth c prog_1_method_12_code "CanoeSides" 3 K A) (hr : meth.sig.returnType = (Option.some Jvm.ClassFile.FieldType.int)) {ad : Nat → Nat} (N : Nat) (a0 : Int32) (h : Hp) {res : Int32 × Hp} (hE : K_C_drift N a0 h = some res) : G p l e rm_C_drift s m args below meth c K A WC 3 0 0 (QI s args below K A WC 0 0 ad res.1 res.2) 0 [(0, .ref (ad 0)), (1, .int a0)] [] ad h := by
  unfold K_C_drift at hE
  refine g_iload_n C0 1 d_C_drift_0 rfl rfl ?_
  refine g_iconst C0 (v := 1) d_C_drift_1 (by decide) ?_
  refine g_bipush C0 (v := 99) d_C_drift_2 (by decide) ?_
  obtain ⟨v4, z4, hE⟩ := bd_some hE
  refine g_calliP C0 nd_C [] rfl (sb_E_C) (runS C0 (m_C_isOutside l K ad h a0 1 99 z4) 3 ⟨t_499, t_500, t_85, t_501⟩ cd_C_isOutside (by decide) (sb_E_C) nd_E rfl rfl (Nat.le_of_ble_eq_true rfl) d_C_drift_4) ?_
  have hB := ite_some hE
  refine g_if_eq C0 (tgt := 13) d_C_drift_7 (by decide) (fun c_ => ?_) (fun c_ => ?_)
  · replace hE := hB.1 c_
    refine g_aload_n C0 0 d_C_drift_13 rfl rfl ?_
    obtain ⟨v14, z14, hE⟩ := bd_some hE
    refine g_calliP C0 nd_C [0, 2, 10, 11, 12, 15, 16, 17, 20, 21, 22, 25, 26, 27, 30, 33, 35, 36, 40, 41, 42, 43, 45, 46, 47, 48, 49, 55, 56, 60, 61, 62, 63, 64] rfl (sbW_self WC) (runV C0 (m_C_noSquares l K ad h z14) 0 rfl ⟨t_755, t_757, t_18, t_85, t_758⟩ cd_C_noSquares (by decide) 0 rfl rfl (sbW_self WC) nd_C rfl rfl (Nat.le_of_ble_eq_true rfl) d_C_drift_14) ?_
    have hB := ite_some hE
    refine g_if_eq C0 (tgt := 23) d_C_drift_17 (by decide) (fun c_ => ?_) (fun c_ => ?_)
    · replace hE := hB.1 c_
      refine g_iconst C0 (v := 0) d_C_drift_23 (by decide) ?_
      refine g_istore_n C0 [(2, .int 0), (0, .ref (ad 0)), (1, .int a0)] d_C_drift_24 rfl (by decide) rfl ?_
      refine g_sub [1, 2, 0] (L' := [(0, .ref (ad 0)), (1, .int a0), (2, .int 0)]) rfl ?_
      obtain ⟨t25, z25, hE⟩ := bd_some hE
      refine loopG (fun z_ : Int32 × Hp => K_C_drift_L25 N a0 z_.1 z_.2) (fun z_ : Int32 × Hp => G p l e rm_C_drift s m args below meth c K A WC 3 0 0 _ 25 [(0, .ref (ad 0)), (1, .int a0), (2, .int z_.1)] [] ad z_.2) (fun z_ : Hp => G p l e rm_C_drift s m args below meth c K A WC 3 0 0 _ 49 [(0, .ref (ad 0))] [] ad z_) (fun z_ x_ hz k1 k2 => w_C_drift_L25 C0 hr N a0 z_.1 z_.2 hz k1 k2) _ _ _ z25 ?_
      try dsimp only
      refine g_aload_n C0 0 d_C_drift_49 rfl rfl ?_
      refine g_getr C0 CK_10 7 (by decide) t_459 0 rfl rfl d_C_drift_50 ?_
      refine g_getiN C0 CK_0 0 (by decide) t_235 14 rfl rfl d_C_drift_53 ?_
      refine g_bipush C0 (v := 8) d_C_drift_56 (by decide) ?_
      refine g_idiv C0 d_C_drift_58 (by decide) ?_
      obtain ⟨v59, z59, hE⟩ := bd_some hE
      refine g_calliP C0 nd_C [] rfl (sb_E_C) (runS C0 (m_C_placeOf l K ad t25 ((t25 30 0) / 8) z59) 1 ⟨t_719, t_720, t_85, t_721⟩ cd_C_placeOf (by decide) (sb_E_C) nd_E rfl rfl (Nat.le_of_ble_eq_true rfl) d_C_drift_59) ?_
      obtain rfl := Option.some.inj hE
      exact g_iret C0 hr d_C_drift_62
    · replace hE := hB.2 c_
      refine g_ldc C0 (v := (-1000000003)) t_759 d_C_drift_20 ?_
      obtain rfl := Option.some.inj hE
      exact g_iret C0 hr d_C_drift_22
  · replace hE := hB.2 c_
    refine g_ldc C0 (v := (-1000000002)) t_502 d_C_drift_10 ?_
    obtain rfl := Option.some.inj hE
    exact g_iret C0 hr d_C_drift_12
theorem m_C_drift (l : Launch) (K : KT) (ad : Nat → Nat) (h : Hp) (N : Nat) (a0 : Int32) {res : Int32 × Hp} (hE : K_C_drift N a0 h = some res) : ConI l y_C_drift prog_1_method_12_code 3 (Option.some Jvm.ClassFile.FieldType.int) rm_C_drift K WC ad h [.ref (ad 0), .int a0] res.1 res.2 := fun sz =>
  con_start [(0, .ref (ad 0)), (1, .int a0)] (by decide +kernel) rfl (Nat.le_of_ble_eq_true rfl) (fun p e s m args below meth c C0 hr hnm hsz => w_C_drift C0 hr N a0 h hE)
abbrev y_C_fewest : MethodName := ⟨"CanoeSides", "fewest", "(I)I"⟩
abbrev rm_C_fewest : Room := { frames := 6, cells := 0, slots := 0, locals := 153 }
theorem cd_C_fewest : cwd y_C_fewest 1 := by decide +kernel
theorem d_C_fewest_0 : decode prog_1_method_13_code 0 = .ok (.aload_n 0, 1) := by decide +kernel
theorem d_C_fewest_1 : decode prog_1_method_13_code 1 = .ok (.invokevirtual 143, 3) := by decide +kernel
theorem d_C_fewest_4 : decode prog_1_method_13_code 4 = .ok (.ifCond .eq 6, 3) := by decide +kernel
theorem d_C_fewest_7 : decode prog_1_method_13_code 7 = .ok (.ldc 147, 2) := by decide +kernel
theorem d_C_fewest_9 : decode prog_1_method_13_code 9 = .ok (.ireturn, 1) := by decide +kernel
theorem d_C_fewest_10 : decode prog_1_method_13_code 10 = .ok (.aload_n 0, 1) := by decide +kernel
theorem d_C_fewest_11 : decode prog_1_method_13_code 11 = .ok (.getfield 74, 3) := by decide +kernel
theorem d_C_fewest_14 : decode prog_1_method_13_code 14 = .ok (.aload_n 0, 1) := by decide +kernel
theorem d_C_fewest_15 : decode prog_1_method_13_code 15 = .ok (.getfield 23, 3) := by decide +kernel
theorem d_C_fewest_18 : decode prog_1_method_13_code 18 = .ok (.aload_n 0, 1) := by decide +kernel
theorem d_C_fewest_19 : decode prog_1_method_13_code 19 = .ok (.getfield 39, 3) := by decide +kernel
theorem d_C_fewest_22 : decode prog_1_method_13_code 22 = .ok (.aload_n 0, 1) := by decide +kernel
theorem d_C_fewest_23 : decode prog_1_method_13_code 23 = .ok (.invokevirtual 158, 3) := by decide +kernel
theorem d_C_fewest_26 : decode prog_1_method_13_code 26 = .ok (.iconst 0, 1) := by decide +kernel
theorem d_C_fewest_27 : decode prog_1_method_13_code 27 = .ok (.invokevirtual 189, 3) := by decide +kernel
theorem d_C_fewest_30 : decode prog_1_method_13_code 30 = .ok (.iload_n 1, 1) := by decide +kernel
theorem d_C_fewest_31 : decode prog_1_method_13_code 31 = .ok (.iconst (-1), 1) := by decide +kernel
theorem d_C_fewest_32 : decode prog_1_method_13_code 32 = .ok (.if_icmp .ne 13, 3) := by decide +kernel
theorem d_C_fewest_35 : decode prog_1_method_13_code 35 = .ok (.aload_n 0, 1) := by decide +kernel
theorem d_C_fewest_36 : decode prog_1_method_13_code 36 = .ok (.getfield 74, 3) := by decide +kernel
theorem d_C_fewest_39 : decode prog_1_method_13_code 39 = .ok (.getfield 193, 3) := by decide +kernel
theorem d_C_fewest_42 : decode prog_1_method_13_code 42 = .ok (.goto 11, 3) := by decide +kernel
theorem d_C_fewest_45 : decode prog_1_method_13_code 45 = .ok (.aload_n 0, 1) := by decide +kernel
theorem d_C_fewest_46 : decode prog_1_method_13_code 46 = .ok (.getfield 74, 3) := by decide +kernel
theorem d_C_fewest_49 : decode prog_1_method_13_code 49 = .ok (.iload_n 1, 1) := by decide +kernel
theorem d_C_fewest_50 : decode prog_1_method_13_code 50 = .ok (.invokevirtual 194, 3) := by decide +kernel
theorem d_C_fewest_53 : decode prog_1_method_13_code 53 = .ok (.ireturn, 1) := by decide +kernel
theorem w_C_fewest {p : Program} {l : Launch} {e : Env} {s : State} {m : MethodId} {args : Array Value} {below : List Frame} {meth : Method} {c : Code} {K : KT} {A : Nat → Prop} (C0 : Cx p s m args meth c prog_1_method_13_code "CanoeSides" 2 K A) (hr : meth.sig.returnType = (Option.some Jvm.ClassFile.FieldType.int)) {ad : Nat → Nat} (N : Nat) (a0 : Int32) (h : Hp) {res : Int32 × Hp} (hE : K_C_fewest N a0 h = some res) : G p l e rm_C_fewest s m args below meth c K A WC 2 0 0 (QI s args below K A WC 0 0 ad res.1 res.2) 0 [(0, .ref (ad 0)), (1, .int a0)] [] ad h := by
  unfold K_C_fewest at hE
  refine g_aload_n C0 0 d_C_fewest_0 rfl rfl ?_
  obtain ⟨v1, z1, hE⟩ := bd_some hE
  refine g_calliP C0 nd_C [0, 2, 10, 11, 12, 15, 16, 17, 20, 21, 22, 25, 26, 27, 30, 33, 35, 36, 40, 41, 42, 43, 45, 46, 47, 48, 49, 55, 56, 60, 61, 62, 63, 64] rfl (sbW_self WC) (runV C0 (m_C_noSquares l K ad h z1) 0 rfl ⟨t_755, t_757, t_18, t_85, t_758⟩ cd_C_noSquares (by decide) 0 rfl rfl (sbW_self WC) nd_C rfl rfl (Nat.le_of_ble_eq_true rfl) d_C_fewest_1) ?_
  have hB := ite_some hE
  refine g_if_eq C0 (tgt := 10) d_C_fewest_4 (by decide) (fun c_ => ?_) (fun c_ => ?_)
  · replace hE := hB.1 c_
    refine g_aload_n C0 0 d_C_fewest_10 rfl rfl ?_
    refine g_getr C0 CK_10 11 (by decide) t_463 0 rfl rfl d_C_fewest_11 ?_
    refine g_aload_n C0 0 d_C_fewest_14 rfl rfl ?_
    refine g_getr C0 CK_10 3 (by decide) t_455 0 rfl rfl d_C_fewest_15 ?_
    refine g_aload_n C0 0 d_C_fewest_18 rfl rfl ?_
    refine g_getr C0 CK_10 5 (by decide) t_457 0 rfl rfl d_C_fewest_19 ?_
    refine g_aload_n C0 0 d_C_fewest_22 rfl rfl ?_
    obtain ⟨v23, z23, hE⟩ := bd_some hE
    refine g_calliP C0 nd_C [0, 2, 10, 11, 12, 15, 16, 17, 20, 21, 22, 25, 26, 27, 30, 33, 35, 36, 40, 41, 42, 43, 45, 46, 47, 48, 49, 55, 56, 60, 61, 62, 63, 64] rfl (sbW_self WC) (runV C0 (m_C_moment l K ad h z23) 0 rfl ⟨t_764, t_766, t_20, t_85, t_767⟩ cd_C_moment (by decide) 0 rfl rfl (sbW_self WC) nd_C rfl rfl (Nat.le_of_ble_eq_true rfl) d_C_fewest_23) ?_
    refine g_iconst C0 (v := 0) d_C_fewest_26 (by decide) ?_
    obtain ⟨h27, z27, hE⟩ := bd_some hE
    refine g_callv C0 nd_C [40, 41, 42, 43, 10, 11, 12, 20, 21, 22, 15, 16, 17] rfl (sb_Search_C) (runV C0 (m_Search_look l K ad h N v23 0 z27) 4 rfl ⟨t_841, t_842, t_843, t_93, t_844⟩ cd_Search_look (by decide) 18 rfl rfl (sb_Search_C) nd_Search rfl rfl (Nat.le_of_ble_eq_true rfl) d_C_fewest_27) ?_
    obtain ⟨h27m, e27, hE⟩ := nm_some hE
    refine g_heap e27 ?_
    refine g_iload_n C0 1 d_C_fewest_30 rfl rfl ?_
    refine g_iconst C0 (v := (-1)) d_C_fewest_31 (by decide) ?_
    have hB := ite_some hE
    refine g_icmp_ne C0 (tgt := 45) d_C_fewest_32 (by decide) (fun c_ => ?_) (fun c_ => ?_)
    · replace hE := hB.2 c_
      refine g_aload_n C0 0 d_C_fewest_45 rfl rfl ?_
      refine g_getr C0 CK_10 11 (by decide) t_463 0 rfl rfl d_C_fewest_46 ?_
      refine g_iload_n C0 1 d_C_fewest_49 rfl rfl ?_
      obtain ⟨v50, z50, hE⟩ := bd_some hE
      refine g_calliP C0 nd_C [40, 41, 42, 43, 10, 11, 12, 20, 21, 22, 15, 16, 17] rfl (sb_Search_C) (runV C0 (m_Search_pairAt l K ad h27m a0 z50) 1 rfl ⟨t_865, t_866, t_867, t_93, t_868⟩ cd_Search_pairAt (by decide) 18 rfl rfl (sb_Search_C) nd_Search rfl rfl (Nat.le_of_ble_eq_true rfl) d_C_fewest_50) ?_
      obtain rfl := Option.some.inj hE
      exact g_iret C0 hr d_C_fewest_53
    · replace hE := hB.1 c_
      refine g_aload_n C0 0 d_C_fewest_35 rfl rfl ?_
      refine g_getr C0 CK_10 11 (by decide) t_463 0 rfl rfl d_C_fewest_36 ?_
      refine g_getiN C0 CK_8 5 (by decide) t_304 18 rfl rfl d_C_fewest_39 ?_
      refine g_goto C0 (tgt := 53) d_C_fewest_42 (by decide) ?_
      obtain rfl := Option.some.inj hE
      exact g_iret C0 hr d_C_fewest_53
  · replace hE := hB.2 c_
    refine g_ldc C0 (v := (-1000000003)) t_759 d_C_fewest_7 ?_
    obtain rfl := Option.some.inj hE
    exact g_iret C0 hr d_C_fewest_9
theorem m_C_fewest (l : Launch) (K : KT) (ad : Nat → Nat) (h : Hp) (N : Nat) (a0 : Int32) {res : Int32 × Hp} (hE : K_C_fewest N a0 h = some res) : ConI l y_C_fewest prog_1_method_13_code 2 (Option.some Jvm.ClassFile.FieldType.int) rm_C_fewest K WC ad h [.ref (ad 0), .int a0] res.1 res.2 := fun sz =>
  con_start [(0, .ref (ad 0)), (1, .int a0)] (by decide +kernel) rfl (Nat.le_of_ble_eq_true rfl) (fun p e s m args below meth c C0 hr hnm hsz => w_C_fewest C0 hr N a0 h hE)
abbrev y_C_calls : MethodName := ⟨"CanoeSides", "calls", "(II)I"⟩
abbrev rm_C_calls : Room := { frames := 6, cells := 0, slots := 0, locals := 152 }
theorem cd_C_calls : cwd y_C_calls 2 := by decide +kernel
theorem d_C_calls_0 : decode prog_1_method_14_code 0 = .ok (.iload_n 1, 1) := by decide +kernel
theorem d_C_calls_1 : decode prog_1_method_14_code 1 = .ok (.iconst 0, 1) := by decide +kernel
theorem d_C_calls_2 : decode prog_1_method_14_code 2 = .ok (.bipush 15, 2) := by decide +kernel
theorem d_C_calls_4 : decode prog_1_method_14_code 4 = .ok (.invokestatic 96, 3) := by decide +kernel
theorem d_C_calls_7 : decode prog_1_method_14_code 7 = .ok (.ifCond .ne 12, 3) := by decide +kernel
theorem d_C_calls_10 : decode prog_1_method_14_code 10 = .ok (.iload_n 2, 1) := by decide +kernel
theorem d_C_calls_11 : decode prog_1_method_14_code 11 = .ok (.iconst 0, 1) := by decide +kernel
theorem d_C_calls_12 : decode prog_1_method_14_code 12 = .ok (.iconst 1, 1) := by decide +kernel
theorem d_C_calls_13 : decode prog_1_method_14_code 13 = .ok (.invokestatic 96, 3) := by decide +kernel
theorem d_C_calls_16 : decode prog_1_method_14_code 16 = .ok (.ifCond .eq 6, 3) := by decide +kernel
theorem d_C_calls_19 : decode prog_1_method_14_code 19 = .ok (.ldc 100, 2) := by decide +kernel
theorem d_C_calls_21 : decode prog_1_method_14_code 21 = .ok (.ireturn, 1) := by decide +kernel
theorem d_C_calls_22 : decode prog_1_method_14_code 22 = .ok (.aload_n 0, 1) := by decide +kernel
theorem d_C_calls_23 : decode prog_1_method_14_code 23 = .ok (.invokevirtual 143, 3) := by decide +kernel
theorem d_C_calls_26 : decode prog_1_method_14_code 26 = .ok (.ifCond .eq 6, 3) := by decide +kernel
theorem d_C_calls_29 : decode prog_1_method_14_code 29 = .ok (.ldc 147, 2) := by decide +kernel
theorem d_C_calls_31 : decode prog_1_method_14_code 31 = .ok (.ireturn, 1) := by decide +kernel
theorem d_C_calls_32 : decode prog_1_method_14_code 32 = .ok (.aload_n 0, 1) := by decide +kernel
theorem d_C_calls_33 : decode prog_1_method_14_code 33 = .ok (.getfield 81, 3) := by decide +kernel
theorem d_C_calls_36 : decode prog_1_method_14_code 36 = .ok (.aload_n 0, 1) := by decide +kernel
theorem d_C_calls_37 : decode prog_1_method_14_code 37 = .ok (.getfield 23, 3) := by decide +kernel
theorem d_C_calls_40 : decode prog_1_method_14_code 40 = .ok (.aload_n 0, 1) := by decide +kernel
theorem d_C_calls_41 : decode prog_1_method_14_code 41 = .ok (.getfield 39, 3) := by decide +kernel
theorem d_C_calls_44 : decode prog_1_method_14_code 44 = .ok (.aload_n 0, 1) := by decide +kernel
theorem d_C_calls_45 : decode prog_1_method_14_code 45 = .ok (.invokevirtual 158, 3) := by decide +kernel
theorem d_C_calls_48 : decode prog_1_method_14_code 48 = .ok (.iload_n 1, 1) := by decide +kernel
theorem d_C_calls_49 : decode prog_1_method_14_code 49 = .ok (.invokevirtual 197, 3) := by decide +kernel
theorem d_C_calls_52 : decode prog_1_method_14_code 52 = .ok (.iload_n 2, 1) := by decide +kernel
theorem d_C_calls_53 : decode prog_1_method_14_code 53 = .ok (.ifCond .ne 13, 3) := by decide +kernel
theorem d_C_calls_56 : decode prog_1_method_14_code 56 = .ok (.aload_n 0, 1) := by decide +kernel
theorem d_C_calls_57 : decode prog_1_method_14_code 57 = .ok (.getfield 81, 3) := by decide +kernel
theorem d_C_calls_60 : decode prog_1_method_14_code 60 = .ok (.getfield 198, 3) := by decide +kernel
theorem d_C_calls_63 : decode prog_1_method_14_code 63 = .ok (.goto 10, 3) := by decide +kernel
theorem d_C_calls_66 : decode prog_1_method_14_code 66 = .ok (.aload_n 0, 1) := by decide +kernel
theorem d_C_calls_67 : decode prog_1_method_14_code 67 = .ok (.getfield 81, 3) := by decide +kernel
theorem d_C_calls_70 : decode prog_1_method_14_code 70 = .ok (.getfield 201, 3) := by decide +kernel
theorem d_C_calls_73 : decode prog_1_method_14_code 73 = .ok (.ireturn, 1) := by decide +kernel
theorem w_C_calls {p : Program} {l : Launch} {e : Env} {s : State} {m : MethodId} {args : Array Value} {below : List Frame} {meth : Method} {c : Code} {K : KT} {A : Nat → Prop} (C0 : Cx p s m args meth c prog_1_method_14_code "CanoeSides" 3 K A) (hr : meth.sig.returnType = (Option.some Jvm.ClassFile.FieldType.int)) {ad : Nat → Nat} (N : Nat) (a0 : Int32) (b0 : Int32) (h : Hp) {res : Int32 × Hp} (hE : K_C_calls N a0 b0 h = some res) : G p l e rm_C_calls s m args below meth c K A WC 3 0 0 (QI s args below K A WC 0 0 ad res.1 res.2) 0 [(0, .ref (ad 0)), (1, .int a0), (2, .int b0)] [] ad h := by
  unfold K_C_calls at hE
  refine g_iload_n C0 1 d_C_calls_0 rfl rfl ?_
  refine g_iconst C0 (v := 0) d_C_calls_1 (by decide) ?_
  refine g_bipush C0 (v := 15) d_C_calls_2 (by decide) ?_
  obtain ⟨v4, z4, hE⟩ := bd_some hE
  refine g_calliP C0 nd_C [] rfl (sb_E_C) (runS C0 (m_C_isOutside l K ad h a0 0 15 z4) 3 ⟨t_499, t_500, t_85, t_501⟩ cd_C_isOutside (by decide) (sb_E_C) nd_E rfl rfl (Nat.le_of_ble_eq_true rfl) d_C_calls_4) ?_
  have hB := ite_some hE
  refine g_if_ne C0 (tgt := 19) d_C_calls_7 (by decide) (fun c_ => ?_) (fun c_ => ?_)
  · replace hE := hB.2 c_
    refine g_ldc C0 (v := (-1000000002)) t_502 d_C_calls_19 ?_
    obtain rfl := Option.some.inj hE
    exact g_iret C0 hr d_C_calls_21
  · replace hE := hB.1 c_
    refine g_iload_n C0 2 d_C_calls_10 rfl rfl ?_
    refine g_iconst C0 (v := 0) d_C_calls_11 (by decide) ?_
    refine g_iconst C0 (v := 1) d_C_calls_12 (by decide) ?_
    obtain ⟨v13, z13, hE⟩ := bd_some hE
    refine g_calliP C0 nd_C [] rfl (sb_E_C) (runS C0 (m_C_isOutside l K ad h b0 0 1 z13) 3 ⟨t_499, t_500, t_85, t_501⟩ cd_C_isOutside (by decide) (sb_E_C) nd_E rfl rfl (Nat.le_of_ble_eq_true rfl) d_C_calls_13) ?_
    have hB := ite_some hE
    refine g_if_eq C0 (tgt := 22) d_C_calls_16 (by decide) (fun c_ => ?_) (fun c_ => ?_)
    · replace hE := hB.1 c_
      refine g_aload_n C0 0 d_C_calls_22 rfl rfl ?_
      obtain ⟨v23, z23, hE⟩ := bd_some hE
      refine g_calliP C0 nd_C [0, 2, 10, 11, 12, 15, 16, 17, 20, 21, 22, 25, 26, 27, 30, 33, 35, 36, 40, 41, 42, 43, 45, 46, 47, 48, 49, 55, 56, 60, 61, 62, 63, 64] rfl (sbW_self WC) (runV C0 (m_C_noSquares l K ad h z23) 0 rfl ⟨t_755, t_757, t_18, t_85, t_758⟩ cd_C_noSquares (by decide) 0 rfl rfl (sbW_self WC) nd_C rfl rfl (Nat.le_of_ble_eq_true rfl) d_C_calls_23) ?_
      have hB := ite_some hE
      refine g_if_eq C0 (tgt := 32) d_C_calls_26 (by decide) (fun c_ => ?_) (fun c_ => ?_)
      · replace hE := hB.1 c_
        refine g_aload_n C0 0 d_C_calls_32 rfl rfl ?_
        refine g_getr C0 CK_10 12 (by decide) t_464 0 rfl rfl d_C_calls_33 ?_
        refine g_aload_n C0 0 d_C_calls_36 rfl rfl ?_
        refine g_getr C0 CK_10 3 (by decide) t_455 0 rfl rfl d_C_calls_37 ?_
        refine g_aload_n C0 0 d_C_calls_40 rfl rfl ?_
        refine g_getr C0 CK_10 5 (by decide) t_457 0 rfl rfl d_C_calls_41 ?_
        refine g_aload_n C0 0 d_C_calls_44 rfl rfl ?_
        obtain ⟨v45, z45, hE⟩ := bd_some hE
        refine g_calliP C0 nd_C [0, 2, 10, 11, 12, 15, 16, 17, 20, 21, 22, 25, 26, 27, 30, 33, 35, 36, 40, 41, 42, 43, 45, 46, 47, 48, 49, 55, 56, 60, 61, 62, 63, 64] rfl (sbW_self WC) (runV C0 (m_C_moment l K ad h z45) 0 rfl ⟨t_764, t_766, t_20, t_85, t_767⟩ cd_C_moment (by decide) 0 rfl rfl (sbW_self WC) nd_C rfl rfl (Nat.le_of_ble_eq_true rfl) d_C_calls_45) ?_
        refine g_iload_n C0 1 d_C_calls_48 rfl rfl ?_
        obtain ⟨h49, z49, hE⟩ := bd_some hE
        refine g_callv C0 nd_C [45, 46, 47, 48, 49, 10, 11, 12, 20, 21, 22, 15, 16, 17] rfl (sb_Calling_C) (runV C0 (m_Calling_look l K ad h N v45 a0 z49) 4 rfl ⟨t_873, t_874, t_875, t_94, t_876⟩ cd_Calling_look (by decide) 22 rfl rfl (sb_Calling_C) nd_Calling rfl rfl (Nat.le_of_ble_eq_true rfl) d_C_calls_49) ?_
        obtain ⟨h49m, e49, hE⟩ := nm_some hE
        refine g_heap e49 ?_
        refine g_iload_n C0 2 d_C_calls_52 rfl rfl ?_
        have hB := ite_some hE
        refine g_if_ne C0 (tgt := 66) d_C_calls_53 (by decide) (fun c_ => ?_) (fun c_ => ?_)
        · replace hE := hB.2 c_
          refine g_aload_n C0 0 d_C_calls_66 rfl rfl ?_
          refine g_getr C0 CK_10 12 (by decide) t_464 0 rfl rfl d_C_calls_67 ?_
          refine g_getiN C0 CK_1 7 (by decide) t_336 22 rfl rfl d_C_calls_70 ?_
          obtain rfl := Option.some.inj hE
          exact g_iret C0 hr d_C_calls_73
        · replace hE := hB.1 c_
          refine g_aload_n C0 0 d_C_calls_56 rfl rfl ?_
          refine g_getr C0 CK_10 12 (by decide) t_464 0 rfl rfl d_C_calls_57 ?_
          refine g_getiN C0 CK_1 6 (by decide) t_334 22 rfl rfl d_C_calls_60 ?_
          refine g_goto C0 (tgt := 73) d_C_calls_63 (by decide) ?_
          obtain rfl := Option.some.inj hE
          exact g_iret C0 hr d_C_calls_73
      · replace hE := hB.2 c_
        refine g_ldc C0 (v := (-1000000003)) t_759 d_C_calls_29 ?_
        obtain rfl := Option.some.inj hE
        exact g_iret C0 hr d_C_calls_31
    · replace hE := hB.2 c_
      refine g_ldc C0 (v := (-1000000002)) t_502 d_C_calls_19 ?_
      obtain rfl := Option.some.inj hE
      exact g_iret C0 hr d_C_calls_21
theorem m_C_calls (l : Launch) (K : KT) (ad : Nat → Nat) (h : Hp) (N : Nat) (a0 : Int32) (b0 : Int32) {res : Int32 × Hp} (hE : K_C_calls N a0 b0 h = some res) : ConI l y_C_calls prog_1_method_14_code 3 (Option.some Jvm.ClassFile.FieldType.int) rm_C_calls K WC ad h [.ref (ad 0), .int a0, .int b0] res.1 res.2 := fun sz =>
  con_start [(0, .ref (ad 0)), (1, .int a0), (2, .int b0)] (by decide +kernel) rfl (Nat.le_of_ble_eq_true rfl) (fun p e s m args below meth c C0 hr hnm hsz => w_C_calls C0 hr N a0 b0 h hE)
abbrev y_C_afterSilently : MethodName := ⟨"CanoeSides", "afterSilently", "(I)I"⟩
abbrev rm_C_afterSilently : Room := { frames := 3, cells := 0, slots := 0, locals := 73 }
theorem cd_C_afterSilently : cwd y_C_afterSilently 1 := by decide +kernel
theorem d_C_afterSilently_0 : decode prog_1_method_46_code 0 = .ok (.iload_n 1, 1) := by decide +kernel
theorem d_C_afterSilently_1 : decode prog_1_method_46_code 1 = .ok (.bipush 16, 2) := by decide +kernel
theorem d_C_afterSilently_3 : decode prog_1_method_46_code 3 = .ok (.irem, 1) := by decide +kernel
theorem d_C_afterSilently_4 : decode prog_1_method_46_code 4 = .ok (.istore_n 2, 1) := by decide +kernel
theorem d_C_afterSilently_5 : decode prog_1_method_46_code 5 = .ok (.aload_n 0, 1) := by decide +kernel
theorem d_C_afterSilently_6 : decode prog_1_method_46_code 6 = .ok (.getfield 23, 3) := by decide +kernel
theorem d_C_afterSilently_9 : decode prog_1_method_46_code 9 = .ok (.iconst 0, 1) := by decide +kernel
theorem d_C_afterSilently_10 : decode prog_1_method_46_code 10 = .ok (.iload_n 2, 1) := by decide +kernel
theorem d_C_afterSilently_11 : decode prog_1_method_46_code 11 = .ok (.iconst 4, 1) := by decide +kernel
theorem d_C_afterSilently_12 : decode prog_1_method_46_code 12 = .ok (.irem, 1) := by decide +kernel
theorem d_C_afterSilently_13 : decode prog_1_method_46_code 13 = .ok (.invokevirtual 139, 3) := by decide +kernel
theorem d_C_afterSilently_16 : decode prog_1_method_46_code 16 = .ok (.istore_n 3, 1) := by decide +kernel
theorem d_C_afterSilently_17 : decode prog_1_method_46_code 17 = .ok (.aload_n 0, 1) := by decide +kernel
theorem d_C_afterSilently_18 : decode prog_1_method_46_code 18 = .ok (.getfield 23, 3) := by decide +kernel
theorem d_C_afterSilently_21 : decode prog_1_method_46_code 21 = .ok (.iconst 1, 1) := by decide +kernel
theorem d_C_afterSilently_22 : decode prog_1_method_46_code 22 = .ok (.iload_n 2, 1) := by decide +kernel
theorem d_C_afterSilently_23 : decode prog_1_method_46_code 23 = .ok (.iconst 4, 1) := by decide +kernel
theorem d_C_afterSilently_24 : decode prog_1_method_46_code 24 = .ok (.idiv, 1) := by decide +kernel
theorem d_C_afterSilently_25 : decode prog_1_method_46_code 25 = .ok (.invokevirtual 139, 3) := by decide +kernel
theorem d_C_afterSilently_28 : decode prog_1_method_46_code 28 = .ok (.istore 4, 2) := by decide +kernel
theorem d_C_afterSilently_30 : decode prog_1_method_46_code 30 = .ok (.aload_n 0, 1) := by decide +kernel
theorem d_C_afterSilently_31 : decode prog_1_method_46_code 31 = .ok (.getfield 39, 3) := by decide +kernel
theorem d_C_afterSilently_34 : decode prog_1_method_46_code 34 = .ok (.iload_n 1, 1) := by decide +kernel
theorem d_C_afterSilently_35 : decode prog_1_method_46_code 35 = .ok (.bipush 16, 2) := by decide +kernel
theorem d_C_afterSilently_37 : decode prog_1_method_46_code 37 = .ok (.idiv, 1) := by decide +kernel
theorem d_C_afterSilently_38 : decode prog_1_method_46_code 38 = .ok (.iload_n 2, 1) := by decide +kernel
theorem d_C_afterSilently_39 : decode prog_1_method_46_code 39 = .ok (.invokevirtual 162, 3) := by decide +kernel
theorem d_C_afterSilently_42 : decode prog_1_method_46_code 42 = .ok (.bipush 16, 2) := by decide +kernel
theorem d_C_afterSilently_44 : decode prog_1_method_46_code 44 = .ok (.imul, 1) := by decide +kernel
theorem d_C_afterSilently_45 : decode prog_1_method_46_code 45 = .ok (.iconst 4, 1) := by decide +kernel
theorem d_C_afterSilently_46 : decode prog_1_method_46_code 46 = .ok (.iload_n 3, 1) := by decide +kernel
theorem d_C_afterSilently_47 : decode prog_1_method_46_code 47 = .ok (.imul, 1) := by decide +kernel
theorem d_C_afterSilently_48 : decode prog_1_method_46_code 48 = .ok (.iadd, 1) := by decide +kernel
theorem d_C_afterSilently_49 : decode prog_1_method_46_code 49 = .ok (.iload 4, 2) := by decide +kernel
theorem d_C_afterSilently_51 : decode prog_1_method_46_code 51 = .ok (.iadd, 1) := by decide +kernel
theorem d_C_afterSilently_52 : decode prog_1_method_46_code 52 = .ok (.ireturn, 1) := by decide +kernel
theorem w_C_afterSilently {p : Program} {l : Launch} {e : Env} {s : State} {m : MethodId} {args : Array Value} {below : List Frame} {meth : Method} {c : Code} {K : KT} {A : Nat → Prop} (C0 : Cx p s m args meth c prog_1_method_46_code "CanoeSides" 5 K A) (hr : meth.sig.returnType = (Option.some Jvm.ClassFile.FieldType.int)) {ad : Nat → Nat} (a0 : Int32) (h : Hp) {res : Int32} (hE : K_C_afterSilently a0 h = some res) : G p l e rm_C_afterSilently s m args below meth c K A WC 5 0 0 (QI s args below K A WC 0 0 ad res h) 0 [(0, .ref (ad 0)), (1, .int a0)] [] ad h := by
  unfold K_C_afterSilently at hE
  refine g_iload_n C0 1 d_C_afterSilently_0 rfl rfl ?_
  refine g_bipush C0 (v := 16) d_C_afterSilently_1 (by decide) ?_
  refine g_irem C0 d_C_afterSilently_3 (by decide) ?_
  obtain ⟨v4, e4, hE⟩ := nm_some hE
  refine g_top e4 ?_
  refine g_istore_n C0 [(2, .int v4), (0, .ref (ad 0)), (1, .int a0)] d_C_afterSilently_4 rfl (by decide) rfl ?_
  refine g_aload_n C0 1 d_C_afterSilently_5 rfl rfl ?_
  refine g_getr C0 CK_10 3 (by decide) t_455 0 rfl rfl d_C_afterSilently_6 ?_
  refine g_iconst C0 (v := 0) d_C_afterSilently_9 (by decide) ?_
  refine g_iload_n C0 0 d_C_afterSilently_10 rfl rfl ?_
  refine g_iconst C0 (v := 4) d_C_afterSilently_11 (by decide) ?_
  refine g_irem C0 d_C_afterSilently_12 (by decide) ?_
  obtain ⟨v13, z13, hE⟩ := bd_some hE
  refine g_calliP C0 nd_C [10, 11, 12] rfl (sb_River_C) (runV C0 (m_River_habitOf l K ad h 0 (rm32 v4 4) z13) 2 rfl ⟨t_747, t_748, t_749, t_86, t_750⟩ cd_River_habitOf (by decide) 2 rfl rfl (sb_River_C) nd_River rfl rfl (Nat.le_of_ble_eq_true rfl) d_C_afterSilently_13) ?_
  refine g_istore_n C0 [(3, .int v13), (2, .int v4), (0, .ref (ad 0)), (1, .int a0)] d_C_afterSilently_16 rfl (by decide) rfl ?_
  refine g_aload_n C0 2 d_C_afterSilently_17 rfl rfl ?_
  refine g_getr C0 CK_10 3 (by decide) t_455 0 rfl rfl d_C_afterSilently_18 ?_
  refine g_iconst C0 (v := 1) d_C_afterSilently_21 (by decide) ?_
  refine g_iload_n C0 1 d_C_afterSilently_22 rfl rfl ?_
  refine g_iconst C0 (v := 4) d_C_afterSilently_23 (by decide) ?_
  refine g_idiv C0 d_C_afterSilently_24 (by decide) ?_
  obtain ⟨v25, z25, hE⟩ := bd_some hE
  refine g_calliP C0 nd_C [10, 11, 12] rfl (sb_River_C) (runV C0 (m_River_habitOf l K ad h 1 (v4 / 4) z25) 2 rfl ⟨t_747, t_748, t_749, t_86, t_750⟩ cd_River_habitOf (by decide) 2 rfl rfl (sb_River_C) nd_River rfl rfl (Nat.le_of_ble_eq_true rfl) d_C_afterSilently_25) ?_
  refine g_istore C0 [(4, .int v25), (3, .int v13), (2, .int v4), (0, .ref (ad 0)), (1, .int a0)] d_C_afterSilently_28 (by decide) rfl ?_
  refine g_aload_n C0 3 d_C_afterSilently_30 rfl rfl ?_
  refine g_getr C0 CK_10 5 (by decide) t_457 0 rfl rfl d_C_afterSilently_31 ?_
  refine g_iload_n C0 4 d_C_afterSilently_34 rfl rfl ?_
  refine g_bipush C0 (v := 16) d_C_afterSilently_35 (by decide) ?_
  refine g_idiv C0 d_C_afterSilently_37 (by decide) ?_
  refine g_iload_n C0 2 d_C_afterSilently_38 rfl rfl ?_
  obtain ⟨v39, z39, hE⟩ := bd_some hE
  refine g_calliP C0 nd_C [20, 21, 22, 15, 16, 17] rfl (sb_Crew_C) (runV C0 (m_Crew_after l K ad h (a0 / 16) v4 z39) 2 rfl ⟨t_772, t_773, t_774, t_89, t_775⟩ cd_Crew_after (by decide) 8 rfl rfl (sb_Crew_C) nd_Crew rfl rfl (Nat.le_of_ble_eq_true rfl) d_C_afterSilently_39) ?_
  refine g_bipush C0 (v := 16) d_C_afterSilently_42 (by decide) ?_
  refine g_imul C0 d_C_afterSilently_44 ?_
  refine g_iconst C0 (v := 4) d_C_afterSilently_45 (by decide) ?_
  refine g_iload_n C0 1 d_C_afterSilently_46 rfl rfl ?_
  refine g_imul C0 d_C_afterSilently_47 ?_
  refine g_iadd C0 d_C_afterSilently_48 ?_
  refine g_iload C0 0 d_C_afterSilently_49 rfl ?_
  refine g_iadd C0 d_C_afterSilently_51 ?_
  obtain rfl := Option.some.inj hE
  exact g_iret C0 hr d_C_afterSilently_52
theorem m_C_afterSilently (l : Launch) (K : KT) (ad : Nat → Nat) (h : Hp) (a0 : Int32) {res : Int32} (hE : K_C_afterSilently a0 h = some res) : ConI l y_C_afterSilently prog_1_method_46_code 5 (Option.some Jvm.ClassFile.FieldType.int) rm_C_afterSilently K WC ad h [.ref (ad 0), .int a0] res h := fun sz =>
  con_start [(0, .ref (ad 0)), (1, .int a0)] (by decide +kernel) rfl (Nat.le_of_ble_eq_true rfl) (fun p e s m args below meth c C0 hr hnm hsz => w_C_afterSilently C0 hr a0 h hE)
abbrev y_C_mute : MethodName := ⟨"CanoeSides", "mute", "(III)I"⟩
abbrev rm_C_mute : Room := { frames := 4, cells := 0, slots := 0, locals := 97 }
theorem cd_C_mute : cwd y_C_mute 3 := by decide +kernel
theorem d_C_mute_0 : decode prog_1_method_15_code 0 = .ok (.iload_n 1, 1) := by decide +kernel
theorem d_C_mute_1 : decode prog_1_method_15_code 1 = .ok (.iconst 0, 1) := by decide +kernel
theorem d_C_mute_2 : decode prog_1_method_15_code 2 = .ok (.bipush 15, 2) := by decide +kernel
theorem d_C_mute_4 : decode prog_1_method_15_code 4 = .ok (.invokestatic 96, 3) := by decide +kernel
theorem d_C_mute_7 : decode prog_1_method_15_code 7 = .ok (.ifCond .ne 22, 3) := by decide +kernel
theorem d_C_mute_10 : decode prog_1_method_15_code 10 = .ok (.iload_n 2, 1) := by decide +kernel
theorem d_C_mute_11 : decode prog_1_method_15_code 11 = .ok (.iconst 0, 1) := by decide +kernel
theorem d_C_mute_12 : decode prog_1_method_15_code 12 = .ok (.bipush 99, 2) := by decide +kernel
theorem d_C_mute_14 : decode prog_1_method_15_code 14 = .ok (.invokestatic 96, 3) := by decide +kernel
theorem d_C_mute_17 : decode prog_1_method_15_code 17 = .ok (.ifCond .ne 12, 3) := by decide +kernel
theorem d_C_mute_20 : decode prog_1_method_15_code 20 = .ok (.iload_n 3, 1) := by decide +kernel
theorem d_C_mute_21 : decode prog_1_method_15_code 21 = .ok (.iconst 0, 1) := by decide +kernel
theorem d_C_mute_22 : decode prog_1_method_15_code 22 = .ok (.iconst 2, 1) := by decide +kernel
theorem d_C_mute_23 : decode prog_1_method_15_code 23 = .ok (.invokestatic 96, 3) := by decide +kernel
theorem d_C_mute_26 : decode prog_1_method_15_code 26 = .ok (.ifCond .eq 6, 3) := by decide +kernel
theorem d_C_mute_29 : decode prog_1_method_15_code 29 = .ok (.ldc 100, 2) := by decide +kernel
theorem d_C_mute_31 : decode prog_1_method_15_code 31 = .ok (.ireturn, 1) := by decide +kernel
theorem d_C_mute_32 : decode prog_1_method_15_code 32 = .ok (.aload_n 0, 1) := by decide +kernel
theorem d_C_mute_33 : decode prog_1_method_15_code 33 = .ok (.invokevirtual 143, 3) := by decide +kernel
theorem d_C_mute_36 : decode prog_1_method_15_code 36 = .ok (.ifCond .eq 6, 3) := by decide +kernel
theorem d_C_mute_39 : decode prog_1_method_15_code 39 = .ok (.ldc 147, 2) := by decide +kernel
theorem d_C_mute_41 : decode prog_1_method_15_code 41 = .ok (.ireturn, 1) := by decide +kernel
theorem d_C_mute_42 : decode prog_1_method_15_code 42 = .ok (.aload_n 0, 1) := by decide +kernel
theorem d_C_mute_43 : decode prog_1_method_15_code 43 = .ok (.invokevirtual 158, 3) := by decide +kernel
theorem d_C_mute_46 : decode prog_1_method_15_code 46 = .ok (.bipush 16, 2) := by decide +kernel
theorem d_C_mute_48 : decode prog_1_method_15_code 48 = .ok (.imul, 1) := by decide +kernel
theorem d_C_mute_49 : decode prog_1_method_15_code 49 = .ok (.iload_n 1, 1) := by decide +kernel
theorem d_C_mute_50 : decode prog_1_method_15_code 50 = .ok (.iadd, 1) := by decide +kernel
theorem d_C_mute_51 : decode prog_1_method_15_code 51 = .ok (.istore 4, 2) := by decide +kernel
theorem d_C_mute_53 : decode prog_1_method_15_code 53 = .ok (.iconst 0, 1) := by decide +kernel
theorem d_C_mute_54 : decode prog_1_method_15_code 54 = .ok (.istore 5, 2) := by decide +kernel
theorem d_C_mute_56 : decode prog_1_method_15_code 56 = .ok (.iload 5, 2) := by decide +kernel
theorem d_C_mute_58 : decode prog_1_method_15_code 58 = .ok (.iload_n 2, 1) := by decide +kernel
theorem d_C_mute_59 : decode prog_1_method_15_code 59 = .ok (.if_icmp .ge 17, 3) := by decide +kernel
theorem d_C_mute_62 : decode prog_1_method_15_code 62 = .ok (.aload_n 0, 1) := by decide +kernel
theorem d_C_mute_63 : decode prog_1_method_15_code 63 = .ok (.iload 4, 2) := by decide +kernel
theorem d_C_mute_65 : decode prog_1_method_15_code 65 = .ok (.invokevirtual 202, 3) := by decide +kernel
theorem d_C_mute_68 : decode prog_1_method_15_code 68 = .ok (.istore 4, 2) := by decide +kernel
theorem d_C_mute_70 : decode prog_1_method_15_code 70 = .ok (.iinc 5 1, 3) := by decide +kernel
theorem d_C_mute_73 : decode prog_1_method_15_code 73 = .ok (.goto (-17), 3) := by decide +kernel
theorem d_C_mute_76 : decode prog_1_method_15_code 76 = .ok (.iload_n 3, 1) := by decide +kernel
theorem d_C_mute_77 : decode prog_1_method_15_code 77 = .ok (.lookupswitch 48 #[(0, 27), (1, 39)], 27) := by decide +kernel
theorem d_C_mute_104 : decode prog_1_method_15_code 104 = .ok (.iload 4, 2) := by decide +kernel
theorem d_C_mute_106 : decode prog_1_method_15_code 106 = .ok (.bipush 16, 2) := by decide +kernel
theorem d_C_mute_108 : decode prog_1_method_15_code 108 = .ok (.idiv, 1) := by decide +kernel
theorem d_C_mute_109 : decode prog_1_method_15_code 109 = .ok (.invokestatic 165, 3) := by decide +kernel
theorem d_C_mute_112 : decode prog_1_method_15_code 112 = .ok (.invokestatic 155, 3) := by decide +kernel
theorem d_C_mute_115 : decode prog_1_method_15_code 115 = .ok (.ireturn, 1) := by decide +kernel
theorem d_C_mute_116 : decode prog_1_method_15_code 116 = .ok (.iload 4, 2) := by decide +kernel
theorem d_C_mute_118 : decode prog_1_method_15_code 118 = .ok (.bipush 16, 2) := by decide +kernel
theorem d_C_mute_120 : decode prog_1_method_15_code 120 = .ok (.idiv, 1) := by decide +kernel
theorem d_C_mute_121 : decode prog_1_method_15_code 121 = .ok (.invokestatic 168, 3) := by decide +kernel
theorem d_C_mute_124 : decode prog_1_method_15_code 124 = .ok (.ireturn, 1) := by decide +kernel
theorem d_C_mute_125 : decode prog_1_method_15_code 125 = .ok (.iload 4, 2) := by decide +kernel
theorem d_C_mute_127 : decode prog_1_method_15_code 127 = .ok (.bipush 16, 2) := by decide +kernel
theorem d_C_mute_129 : decode prog_1_method_15_code 129 = .ok (.irem, 1) := by decide +kernel
theorem d_C_mute_130 : decode prog_1_method_15_code 130 = .ok (.ireturn, 1) := by decide +kernel
theorem w_C_mute_L56 {p : Program} {l : Launch} {e : Env} {s : State} {m : MethodId} {args : Array Value} {below : List Frame} {meth : Method} {c : Code} {K : KT} {A : Nat → Prop} {Q : State → Prop} (C0 : Cx p s m args meth c prog_1_method_15_code "CanoeSides" 6 K A) (hr : meth.sig.returnType = (Option.some Jvm.ClassFile.FieldType.int)) {ad : Nat → Nat} (N : Nat) (x2 : Int32) (x3 : Int32) (x4 : Int32) (x5 : Int32) (h : Hp) {x_ : (Int32 × Int32) ⊕ (Int32)} (hE : K_C_mute_L56 N x2 x3 x4 x5 h = some x_) (hk1 : ∀ z_, x_ = .inl z_ → G p l e rm_C_mute s m args below meth c K A WC 6 0 0 Q 56 [(0, .ref (ad 0)), (2, .int x2), (3, .int x3), (4, .int z_.1), (5, .int z_.2)] [] ad h) (hk3 : ∀ z_, x_ = .inr z_ → G p l e rm_C_mute s m args below meth c K A WC 6 0 0 Q 76 [(3, .int x3), (4, .int z_)] [] ad h) : G p l e rm_C_mute s m args below meth c K A WC 6 0 0 Q 56 [(0, .ref (ad 0)), (2, .int x2), (3, .int x3), (4, .int x4), (5, .int x5)] [] ad h := by
  unfold K_C_mute_L56 at hE
  refine g_iload C0 4 d_C_mute_56 rfl ?_
  refine g_iload_n C0 1 d_C_mute_58 rfl rfl ?_
  have hB := ite_some hE
  refine g_icmp_ge C0 (tgt := 76) d_C_mute_59 (by decide) (fun c_ => ?_) (fun c_ => ?_)
  · replace hE := hB.1 c_
    refine g_sub [2, 3] (L' := [(3, .int x3), (4, .int x4)]) rfl ?_
    exact hk3 _ (Option.some.inj hE).symm
  · replace hE := hB.2 c_
    refine g_aload_n C0 0 d_C_mute_62 rfl rfl ?_
    refine g_iload C0 3 d_C_mute_63 rfl ?_
    obtain ⟨v65, z65, hE⟩ := bd_some hE
    refine g_calliP C0 nd_C [0, 2, 10, 11, 12, 15, 16, 17, 20, 21, 22, 25, 26, 27, 30, 33, 35, 36, 40, 41, 42, 43, 45, 46, 47, 48, 49, 55, 56, 60, 61, 62, 63, 64] rfl (sbW_self WC) (runV C0 (m_C_afterSilently l K ad h x4 z65) 1 rfl ⟨t_901, t_903, t_29, t_85, t_904⟩ cd_C_afterSilently (by decide) 0 rfl rfl (sbW_self WC) nd_C rfl rfl (Nat.le_of_ble_eq_true rfl) d_C_mute_65) ?_
    refine g_istore C0 [(4, .int v65), (0, .ref (ad 0)), (2, .int x2), (3, .int x3), (5, .int x5)] d_C_mute_68 (by decide) rfl ?_
    obtain ⟨v70, e70, hE⟩ := nm_some hE
    refine g_iinc C0 4 [(5, .int v70), (4, .int v65), (0, .ref (ad 0)), (2, .int x2), (3, .int x3)] d_C_mute_70 rfl (by rw [e70]; rfl) (by decide) rfl ?_
    refine g_goto C0 (tgt := 56) d_C_mute_73 (by decide) ?_
    refine g_sub [2, 3, 4, 1, 0] (L' := [(0, .ref (ad 0)), (2, .int x2), (3, .int x3), (4, .int v65), (5, .int v70)]) rfl ?_
    exact hk1 _ (Option.some.inj hE).symm
theorem w_C_mute {p : Program} {l : Launch} {e : Env} {s : State} {m : MethodId} {args : Array Value} {below : List Frame} {meth : Method} {c : Code} {K : KT} {A : Nat → Prop} (C0 : Cx p s m args meth c prog_1_method_15_code "CanoeSides" 6 K A) (hr : meth.sig.returnType = (Option.some Jvm.ClassFile.FieldType.int)) {ad : Nat → Nat} (N : Nat) (a0 : Int32) (b0 : Int32) (c0 : Int32) (h : Hp) {res : Int32} (hE : K_C_mute N a0 b0 c0 h = some res) : G p l e rm_C_mute s m args below meth c K A WC 6 0 0 (QI s args below K A WC 0 0 ad res h) 0 [(0, .ref (ad 0)), (1, .int a0), (2, .int b0), (3, .int c0)] [] ad h := by
  unfold K_C_mute at hE
  refine g_iload_n C0 1 d_C_mute_0 rfl rfl ?_
  refine g_iconst C0 (v := 0) d_C_mute_1 (by decide) ?_
  refine g_bipush C0 (v := 15) d_C_mute_2 (by decide) ?_
  obtain ⟨v4, z4, hE⟩ := bd_some hE
  refine g_calliP C0 nd_C [] rfl (sb_E_C) (runS C0 (m_C_isOutside l K ad h a0 0 15 z4) 3 ⟨t_499, t_500, t_85, t_501⟩ cd_C_isOutside (by decide) (sb_E_C) nd_E rfl rfl (Nat.le_of_ble_eq_true rfl) d_C_mute_4) ?_
  have hB := ite_some hE
  refine g_if_ne C0 (tgt := 29) d_C_mute_7 (by decide) (fun c_ => ?_) (fun c_ => ?_)
  · replace hE := hB.2 c_
    refine g_ldc C0 (v := (-1000000002)) t_502 d_C_mute_29 ?_
    obtain rfl := Option.some.inj hE
    exact g_iret C0 hr d_C_mute_31
  · replace hE := hB.1 c_
    refine g_iload_n C0 2 d_C_mute_10 rfl rfl ?_
    refine g_iconst C0 (v := 0) d_C_mute_11 (by decide) ?_
    refine g_bipush C0 (v := 99) d_C_mute_12 (by decide) ?_
    obtain ⟨v14, z14, hE⟩ := bd_some hE
    refine g_calliP C0 nd_C [] rfl (sb_E_C) (runS C0 (m_C_isOutside l K ad h b0 0 99 z14) 3 ⟨t_499, t_500, t_85, t_501⟩ cd_C_isOutside (by decide) (sb_E_C) nd_E rfl rfl (Nat.le_of_ble_eq_true rfl) d_C_mute_14) ?_
    have hB := ite_some hE
    refine g_if_ne C0 (tgt := 29) d_C_mute_17 (by decide) (fun c_ => ?_) (fun c_ => ?_)
    · replace hE := hB.2 c_
      refine g_ldc C0 (v := (-1000000002)) t_502 d_C_mute_29 ?_
      obtain rfl := Option.some.inj hE
      exact g_iret C0 hr d_C_mute_31
    · replace hE := hB.1 c_
      refine g_iload_n C0 3 d_C_mute_20 rfl rfl ?_
      refine g_iconst C0 (v := 0) d_C_mute_21 (by decide) ?_
      refine g_iconst C0 (v := 2) d_C_mute_22 (by decide) ?_
      obtain ⟨v23, z23, hE⟩ := bd_some hE
      refine g_calliP C0 nd_C [] rfl (sb_E_C) (runS C0 (m_C_isOutside l K ad h c0 0 2 z23) 3 ⟨t_499, t_500, t_85, t_501⟩ cd_C_isOutside (by decide) (sb_E_C) nd_E rfl rfl (Nat.le_of_ble_eq_true rfl) d_C_mute_23) ?_
      have hB := ite_some hE
      refine g_if_eq C0 (tgt := 32) d_C_mute_26 (by decide) (fun c_ => ?_) (fun c_ => ?_)
      · replace hE := hB.1 c_
        refine g_aload_n C0 0 d_C_mute_32 rfl rfl ?_
        obtain ⟨v33, z33, hE⟩ := bd_some hE
        refine g_calliP C0 nd_C [0, 2, 10, 11, 12, 15, 16, 17, 20, 21, 22, 25, 26, 27, 30, 33, 35, 36, 40, 41, 42, 43, 45, 46, 47, 48, 49, 55, 56, 60, 61, 62, 63, 64] rfl (sbW_self WC) (runV C0 (m_C_noSquares l K ad h z33) 0 rfl ⟨t_755, t_757, t_18, t_85, t_758⟩ cd_C_noSquares (by decide) 0 rfl rfl (sbW_self WC) nd_C rfl rfl (Nat.le_of_ble_eq_true rfl) d_C_mute_33) ?_
        have hB := ite_some hE
        refine g_if_eq C0 (tgt := 42) d_C_mute_36 (by decide) (fun c_ => ?_) (fun c_ => ?_)
        · replace hE := hB.1 c_
          refine g_aload_n C0 0 d_C_mute_42 rfl rfl ?_
          obtain ⟨v43, z43, hE⟩ := bd_some hE
          refine g_calliP C0 nd_C [0, 2, 10, 11, 12, 15, 16, 17, 20, 21, 22, 25, 26, 27, 30, 33, 35, 36, 40, 41, 42, 43, 45, 46, 47, 48, 49, 55, 56, 60, 61, 62, 63, 64] rfl (sbW_self WC) (runV C0 (m_C_moment l K ad h z43) 0 rfl ⟨t_764, t_766, t_20, t_85, t_767⟩ cd_C_moment (by decide) 0 rfl rfl (sbW_self WC) nd_C rfl rfl (Nat.le_of_ble_eq_true rfl) d_C_mute_43) ?_
          refine g_bipush C0 (v := 16) d_C_mute_46 (by decide) ?_
          refine g_imul C0 d_C_mute_48 ?_
          refine g_iload_n C0 1 d_C_mute_49 rfl rfl ?_
          refine g_iadd C0 d_C_mute_50 ?_
          obtain ⟨v51, e51, hE⟩ := nm_some hE
          refine g_top e51 ?_
          refine g_istore C0 [(4, .int v51), (0, .ref (ad 0)), (1, .int a0), (2, .int b0), (3, .int c0)] d_C_mute_51 (by decide) rfl ?_
          refine g_iconst C0 (v := 0) d_C_mute_53 (by decide) ?_
          refine g_istore C0 [(5, .int 0), (4, .int v51), (0, .ref (ad 0)), (1, .int a0), (2, .int b0), (3, .int c0)] d_C_mute_54 (by decide) rfl ?_
          refine g_sub [2, 4, 5, 1, 0] (L' := [(0, .ref (ad 0)), (2, .int b0), (3, .int c0), (4, .int v51), (5, .int 0)]) rfl ?_
          obtain ⟨t56, z56, hE⟩ := bd_some hE
          refine loopG (fun z_ : Int32 × Int32 => K_C_mute_L56 N b0 c0 z_.1 z_.2 h) (fun z_ : Int32 × Int32 => G p l e rm_C_mute s m args below meth c K A WC 6 0 0 _ 56 [(0, .ref (ad 0)), (2, .int b0), (3, .int c0), (4, .int z_.1), (5, .int z_.2)] [] ad h) (fun z_ : Int32 => G p l e rm_C_mute s m args below meth c K A WC 6 0 0 _ 76 [(3, .int c0), (4, .int z_)] [] ad h) (fun z_ x_ hz k1 k2 => w_C_mute_L56 C0 hr N b0 c0 z_.1 z_.2 h hz k1 k2) _ _ _ z56 ?_
          try dsimp only
          refine g_iload_n C0 0 d_C_mute_76 rfl rfl ?_
          have hB := ite_some hE
          by_cases c_0 : c0 = 0
          · replace hE := hB.1 c_0
            refine g_lookup C0 (tgt := 104) (off := 27) d_C_mute_77 (by decide) (by rw [c_0]; decide) (by decide) ?_
            refine g_iload C0 1 d_C_mute_104 rfl ?_
            refine g_bipush C0 (v := 16) d_C_mute_106 (by decide) ?_
            refine g_idiv C0 d_C_mute_108 (by decide) ?_
            obtain ⟨v109, z109, hE⟩ := bd_some hE
            refine g_calliP C0 nd_C [] rfl (sb_E_C) (runS C0 (m_C_squareOf l K ad h (t56 / 16) z109) 1 ⟨t_805, t_806, t_85, t_807⟩ cd_C_squareOf (by decide) (sb_E_C) nd_E rfl rfl (Nat.le_of_ble_eq_true rfl) d_C_mute_109) ?_
            obtain ⟨v112, z112, hE⟩ := bd_some hE
            refine g_calliP C0 nd_C [] rfl (sb_E_C) (runS C0 (m_C_placeOf l K ad h v109 z112) 1 ⟨t_719, t_720, t_85, t_721⟩ cd_C_placeOf (by decide) (sb_E_C) nd_E rfl rfl (Nat.le_of_ble_eq_true rfl) d_C_mute_112) ?_
            obtain rfl := Option.some.inj hE
            exact g_iret C0 hr d_C_mute_115
          · replace hE := hB.2 c_0
            have hB := ite_some hE
            by_cases c_1 : c0 = 1
            · replace hE := hB.1 c_1
              refine g_lookup C0 (tgt := 116) (off := 39) d_C_mute_77 (by decide) (by rw [c_1]; decide) (by decide) ?_
              refine g_iload C0 1 d_C_mute_116 rfl ?_
              refine g_bipush C0 (v := 16) d_C_mute_118 (by decide) ?_
              refine g_idiv C0 d_C_mute_120 (by decide) ?_
              obtain ⟨v121, z121, hE⟩ := bd_some hE
              refine g_calliP C0 nd_C [] rfl (sb_E_C) (runS C0 (m_C_headingOf l K ad h (t56 / 16) z121) 1 ⟨t_722, t_723, t_85, t_724⟩ cd_C_headingOf (by decide) (sb_E_C) nd_E rfl rfl (Nat.le_of_ble_eq_true rfl) d_C_mute_121) ?_
              obtain rfl := Option.some.inj hE
              exact g_iret C0 hr d_C_mute_124
            · replace hE := hB.2 c_1
              refine g_lookup C0 (tgt := 125) (off := 48) d_C_mute_77 (by decide) (by have n_0 := i32_ne (j := 0) c_0 (by decide) (by decide); have n_1 := i32_ne (j := 1) c_1 (by decide) (by decide); simp [Op.lookupswitch.offset, n_0.symm, n_1.symm]) (by decide) ?_
              refine g_iload C0 1 d_C_mute_125 rfl ?_
              refine g_bipush C0 (v := 16) d_C_mute_127 (by decide) ?_
              refine g_irem C0 d_C_mute_129 (by decide) ?_
              obtain rfl := Option.some.inj hE
              exact g_iret C0 hr d_C_mute_130
        · replace hE := hB.2 c_
          refine g_ldc C0 (v := (-1000000003)) t_759 d_C_mute_39 ?_
          obtain rfl := Option.some.inj hE
          exact g_iret C0 hr d_C_mute_41
      · replace hE := hB.2 c_
        refine g_ldc C0 (v := (-1000000002)) t_502 d_C_mute_29 ?_
        obtain rfl := Option.some.inj hE
        exact g_iret C0 hr d_C_mute_31
theorem m_C_mute (l : Launch) (K : KT) (ad : Nat → Nat) (h : Hp) (N : Nat) (a0 : Int32) (b0 : Int32) (c0 : Int32) {res : Int32} (hE : K_C_mute N a0 b0 c0 h = some res) : ConI l y_C_mute prog_1_method_15_code 6 (Option.some Jvm.ClassFile.FieldType.int) rm_C_mute K WC ad h [.ref (ad 0), .int a0, .int b0, .int c0] res h := fun sz =>
  con_start [(0, .ref (ad 0)), (1, .int a0), (2, .int b0), (3, .int c0)] (by decide +kernel) rfl (Nat.le_of_ble_eq_true rfl) (fun p e s m args below meth c C0 hr hnm hsz => w_C_mute C0 hr N a0 b0 c0 h hE)
abbrev y_C_loopFrom : MethodName := ⟨"CanoeSides", "loopFrom", "(I)I"⟩
abbrev rm_C_loopFrom : Room := { frames := 4, cells := 0, slots := 0, locals := 97 }
theorem cd_C_loopFrom : cwd y_C_loopFrom 1 := by decide +kernel
theorem d_C_loopFrom_0 : decode prog_1_method_47_code 0 = .ok (.iload_n 1, 1) := by decide +kernel
theorem d_C_loopFrom_1 : decode prog_1_method_47_code 1 = .ok (.istore_n 2, 1) := by decide +kernel
theorem d_C_loopFrom_2 : decode prog_1_method_47_code 2 = .ok (.aload_n 0, 1) := by decide +kernel
theorem d_C_loopFrom_3 : decode prog_1_method_47_code 3 = .ok (.iload_n 1, 1) := by decide +kernel
theorem d_C_loopFrom_4 : decode prog_1_method_47_code 4 = .ok (.invokevirtual 202, 3) := by decide +kernel
theorem d_C_loopFrom_7 : decode prog_1_method_47_code 7 = .ok (.istore_n 3, 1) := by decide +kernel
theorem d_C_loopFrom_8 : decode prog_1_method_47_code 8 = .ok (.iconst 1, 1) := by decide +kernel
theorem d_C_loopFrom_9 : decode prog_1_method_47_code 9 = .ok (.istore 4, 2) := by decide +kernel
theorem d_C_loopFrom_11 : decode prog_1_method_47_code 11 = .ok (.iconst 1, 1) := by decide +kernel
theorem d_C_loopFrom_12 : decode prog_1_method_47_code 12 = .ok (.istore 5, 2) := by decide +kernel
theorem d_C_loopFrom_14 : decode prog_1_method_47_code 14 = .ok (.iconst 0, 1) := by decide +kernel
theorem d_C_loopFrom_15 : decode prog_1_method_47_code 15 = .ok (.istore 6, 2) := by decide +kernel
theorem d_C_loopFrom_17 : decode prog_1_method_47_code 17 = .ok (.iload 6, 2) := by decide +kernel
theorem d_C_loopFrom_19 : decode prog_1_method_47_code 19 = .ok (.ldc_w 334, 3) := by decide +kernel
theorem d_C_loopFrom_22 : decode prog_1_method_47_code 22 = .ok (.if_icmp .ge 41, 3) := by decide +kernel
theorem d_C_loopFrom_25 : decode prog_1_method_47_code 25 = .ok (.iload_n 2, 1) := by decide +kernel
theorem d_C_loopFrom_26 : decode prog_1_method_47_code 26 = .ok (.iload_n 3, 1) := by decide +kernel
theorem d_C_loopFrom_27 : decode prog_1_method_47_code 27 = .ok (.if_icmp .eq 36, 3) := by decide +kernel
theorem d_C_loopFrom_30 : decode prog_1_method_47_code 30 = .ok (.iload 4, 2) := by decide +kernel
theorem d_C_loopFrom_32 : decode prog_1_method_47_code 32 = .ok (.iload 5, 2) := by decide +kernel
theorem d_C_loopFrom_34 : decode prog_1_method_47_code 34 = .ok (.if_icmp .ne 14, 3) := by decide +kernel
theorem d_C_loopFrom_37 : decode prog_1_method_47_code 37 = .ok (.iload_n 3, 1) := by decide +kernel
theorem d_C_loopFrom_38 : decode prog_1_method_47_code 38 = .ok (.istore_n 2, 1) := by decide +kernel
theorem d_C_loopFrom_39 : decode prog_1_method_47_code 39 = .ok (.iload 5, 2) := by decide +kernel
theorem d_C_loopFrom_41 : decode prog_1_method_47_code 41 = .ok (.iconst 2, 1) := by decide +kernel
theorem d_C_loopFrom_42 : decode prog_1_method_47_code 42 = .ok (.imul, 1) := by decide +kernel
theorem d_C_loopFrom_43 : decode prog_1_method_47_code 43 = .ok (.istore 5, 2) := by decide +kernel
theorem d_C_loopFrom_45 : decode prog_1_method_47_code 45 = .ok (.iconst 0, 1) := by decide +kernel
theorem d_C_loopFrom_46 : decode prog_1_method_47_code 46 = .ok (.istore 4, 2) := by decide +kernel
theorem d_C_loopFrom_48 : decode prog_1_method_47_code 48 = .ok (.aload_n 0, 1) := by decide +kernel
theorem d_C_loopFrom_49 : decode prog_1_method_47_code 49 = .ok (.iload_n 3, 1) := by decide +kernel
theorem d_C_loopFrom_50 : decode prog_1_method_47_code 50 = .ok (.invokevirtual 202, 3) := by decide +kernel
theorem d_C_loopFrom_53 : decode prog_1_method_47_code 53 = .ok (.istore_n 3, 1) := by decide +kernel
theorem d_C_loopFrom_54 : decode prog_1_method_47_code 54 = .ok (.iinc 4 1, 3) := by decide +kernel
theorem d_C_loopFrom_57 : decode prog_1_method_47_code 57 = .ok (.iinc 6 1, 3) := by decide +kernel
theorem d_C_loopFrom_60 : decode prog_1_method_47_code 60 = .ok (.goto (-43), 3) := by decide +kernel
theorem d_C_loopFrom_63 : decode prog_1_method_47_code 63 = .ok (.iload 4, 2) := by decide +kernel
theorem d_C_loopFrom_65 : decode prog_1_method_47_code 65 = .ok (.ireturn, 1) := by decide +kernel
theorem w_C_loopFrom_J48 {p : Program} {l : Launch} {e : Env} {s : State} {m : MethodId} {args : Array Value} {below : List Frame} {meth : Method} {c : Code} {K : KT} {A : Nat → Prop} {Q : State → Prop} (C0 : Cx p s m args meth c prog_1_method_47_code "CanoeSides" 7 K A) (hr : meth.sig.returnType = (Option.some Jvm.ClassFile.FieldType.int)) {ad : Nat → Nat} (N : Nat) (x2 : Int32) (x3 : Int32) (x4 : Int32) (x5 : Int32) (x6 : Int32) (h : Hp) {x_ : (Int32 × Int32 × Int32 × Int32 × Int32) ⊕ (Int32)} (hE : K_C_loopFrom_J48 N x2 x3 x4 x5 x6 h = some x_) (hk1 : ∀ z_, x_ = .inl z_ → G p l e rm_C_loopFrom s m args below meth c K A WC 7 0 0 Q 17 [(0, .ref (ad 0)), (2, .int z_.1), (3, .int z_.2.1), (4, .int z_.2.2.1), (5, .int z_.2.2.2.1), (6, .int z_.2.2.2.2)] [] ad h) (hk3 : ∀ z_, x_ = .inr z_ → G p l e rm_C_loopFrom s m args below meth c K A WC 7 0 0 Q 63 [(4, .int z_)] [] ad h) : G p l e rm_C_loopFrom s m args below meth c K A WC 7 0 0 Q 48 [(0, .ref (ad 0)), (2, .int x2), (3, .int x3), (4, .int x4), (5, .int x5), (6, .int x6)] [] ad h := by
  unfold K_C_loopFrom_J48 at hE
  refine g_aload_n C0 0 d_C_loopFrom_48 rfl rfl ?_
  refine g_iload_n C0 2 d_C_loopFrom_49 rfl rfl ?_
  obtain ⟨v50, z50, hE⟩ := bd_some hE
  refine g_calliP C0 nd_C [0, 2, 10, 11, 12, 15, 16, 17, 20, 21, 22, 25, 26, 27, 30, 33, 35, 36, 40, 41, 42, 43, 45, 46, 47, 48, 49, 55, 56, 60, 61, 62, 63, 64] rfl (sbW_self WC) (runV C0 (m_C_afterSilently l K ad h x3 z50) 1 rfl ⟨t_901, t_903, t_29, t_85, t_904⟩ cd_C_afterSilently (by decide) 0 rfl rfl (sbW_self WC) nd_C rfl rfl (Nat.le_of_ble_eq_true rfl) d_C_loopFrom_50) ?_
  refine g_istore_n C0 [(3, .int v50), (0, .ref (ad 0)), (2, .int x2), (4, .int x4), (5, .int x5), (6, .int x6)] d_C_loopFrom_53 rfl (by decide) rfl ?_
  obtain ⟨v54, e54, hE⟩ := nm_some hE
  refine g_iinc C0 3 [(4, .int v54), (3, .int v50), (0, .ref (ad 0)), (2, .int x2), (5, .int x5), (6, .int x6)] d_C_loopFrom_54 rfl (by rw [e54]; rfl) (by decide) rfl ?_
  obtain ⟨v57, e57, hE⟩ := nm_some hE
  refine g_iinc C0 5 [(6, .int v57), (4, .int v54), (3, .int v50), (0, .ref (ad 0)), (2, .int x2), (5, .int x5)] d_C_loopFrom_57 rfl (by rw [e57]; rfl) (by decide) rfl ?_
  refine g_goto C0 (tgt := 17) d_C_loopFrom_60 (by decide) ?_
  refine g_sub [3, 4, 2, 1, 5, 0] (L' := [(0, .ref (ad 0)), (2, .int x2), (3, .int v50), (4, .int v54), (5, .int x5), (6, .int v57)]) rfl ?_
  exact hk1 _ (Option.some.inj hE).symm
theorem w_C_loopFrom_L17 {p : Program} {l : Launch} {e : Env} {s : State} {m : MethodId} {args : Array Value} {below : List Frame} {meth : Method} {c : Code} {K : KT} {A : Nat → Prop} {Q : State → Prop} (C0 : Cx p s m args meth c prog_1_method_47_code "CanoeSides" 7 K A) (hr : meth.sig.returnType = (Option.some Jvm.ClassFile.FieldType.int)) {ad : Nat → Nat} (N : Nat) (x2 : Int32) (x3 : Int32) (x4 : Int32) (x5 : Int32) (x6 : Int32) (h : Hp) {x_ : (Int32 × Int32 × Int32 × Int32 × Int32) ⊕ (Int32)} (hE : K_C_loopFrom_L17 N x2 x3 x4 x5 x6 h = some x_) (hk1 : ∀ z_, x_ = .inl z_ → G p l e rm_C_loopFrom s m args below meth c K A WC 7 0 0 Q 17 [(0, .ref (ad 0)), (2, .int z_.1), (3, .int z_.2.1), (4, .int z_.2.2.1), (5, .int z_.2.2.2.1), (6, .int z_.2.2.2.2)] [] ad h) (hk3 : ∀ z_, x_ = .inr z_ → G p l e rm_C_loopFrom s m args below meth c K A WC 7 0 0 Q 63 [(4, .int z_)] [] ad h) : G p l e rm_C_loopFrom s m args below meth c K A WC 7 0 0 Q 17 [(0, .ref (ad 0)), (2, .int x2), (3, .int x3), (4, .int x4), (5, .int x5), (6, .int x6)] [] ad h := by
  unfold K_C_loopFrom_L17 at hE
  refine g_iload C0 5 d_C_loopFrom_17 rfl ?_
  refine g_ldcw C0 (v := 1000000) t_913 d_C_loopFrom_19 ?_
  have hB := ite_some hE
  refine g_icmp_ge C0 (tgt := 63) d_C_loopFrom_22 (by decide) (fun c_ => ?_) (fun c_ => ?_)
  · replace hE := hB.1 c_
    refine g_sub [3] (L' := [(4, .int x4)]) rfl ?_
    exact hk3 _ (Option.some.inj hE).symm
  · replace hE := hB.2 c_
    refine g_iload_n C0 1 d_C_loopFrom_25 rfl rfl ?_
    refine g_iload_n C0 2 d_C_loopFrom_26 rfl rfl ?_
    have hB := ite_some hE
    refine g_icmp_eq C0 (tgt := 63) d_C_loopFrom_27 (by decide) (fun c_ => ?_) (fun c_ => ?_)
    · replace hE := hB.1 c_
      refine g_sub [3] (L' := [(4, .int x4)]) rfl ?_
      exact hk3 _ (Option.some.inj hE).symm
    · replace hE := hB.2 c_
      refine g_iload C0 3 d_C_loopFrom_30 rfl ?_
      refine g_iload C0 4 d_C_loopFrom_32 rfl ?_
      have hB := ite_some hE
      refine g_icmp_ne C0 (tgt := 48) d_C_loopFrom_34 (by decide) (fun c_ => ?_) (fun c_ => ?_)
      · replace hE := hB.2 c_
        exact w_C_loopFrom_J48 C0 hr N x2 x3 x4 x5 x6 h hE hk1 hk3
      · replace hE := hB.1 c_
        refine g_iload_n C0 2 d_C_loopFrom_37 rfl rfl ?_
        refine g_istore_n C0 [(2, .int x3), (0, .ref (ad 0)), (3, .int x3), (4, .int x4), (5, .int x5), (6, .int x6)] d_C_loopFrom_38 rfl (by decide) rfl ?_
        refine g_iload C0 4 d_C_loopFrom_39 rfl ?_
        refine g_iconst C0 (v := 2) d_C_loopFrom_41 (by decide) ?_
        refine g_imul C0 d_C_loopFrom_42 ?_
        obtain ⟨v43, e43, hE⟩ := nm_some hE
        refine g_top e43 ?_
        refine g_istore C0 [(5, .int v43), (2, .int x3), (0, .ref (ad 0)), (3, .int x3), (4, .int x4), (6, .int x6)] d_C_loopFrom_43 (by decide) rfl ?_
        refine g_iconst C0 (v := 0) d_C_loopFrom_45 (by decide) ?_
        refine g_istore C0 [(4, .int 0), (5, .int v43), (2, .int x3), (0, .ref (ad 0)), (3, .int x3), (6, .int x6)] d_C_loopFrom_46 (by decide) rfl ?_
        refine g_sub [3, 2, 4, 0, 1, 5] (L' := [(0, .ref (ad 0)), (2, .int x3), (3, .int x3), (4, .int 0), (5, .int v43), (6, .int x6)]) rfl ?_
        exact w_C_loopFrom_J48 C0 hr N x3 x3 0 v43 x6 h hE hk1 hk3
theorem w_C_loopFrom {p : Program} {l : Launch} {e : Env} {s : State} {m : MethodId} {args : Array Value} {below : List Frame} {meth : Method} {c : Code} {K : KT} {A : Nat → Prop} (C0 : Cx p s m args meth c prog_1_method_47_code "CanoeSides" 7 K A) (hr : meth.sig.returnType = (Option.some Jvm.ClassFile.FieldType.int)) {ad : Nat → Nat} (N : Nat) (a0 : Int32) (h : Hp) {res : Int32} (hE : K_C_loopFrom N a0 h = some res) : G p l e rm_C_loopFrom s m args below meth c K A WC 7 0 0 (QI s args below K A WC 0 0 ad res h) 0 [(0, .ref (ad 0)), (1, .int a0)] [] ad h := by
  unfold K_C_loopFrom at hE
  refine g_iload_n C0 1 d_C_loopFrom_0 rfl rfl ?_
  refine g_istore_n C0 [(2, .int a0), (0, .ref (ad 0)), (1, .int a0)] d_C_loopFrom_1 rfl (by decide) rfl ?_
  refine g_aload_n C0 1 d_C_loopFrom_2 rfl rfl ?_
  refine g_iload_n C0 2 d_C_loopFrom_3 rfl rfl ?_
  obtain ⟨v4, z4, hE⟩ := bd_some hE
  refine g_calliP C0 nd_C [0, 2, 10, 11, 12, 15, 16, 17, 20, 21, 22, 25, 26, 27, 30, 33, 35, 36, 40, 41, 42, 43, 45, 46, 47, 48, 49, 55, 56, 60, 61, 62, 63, 64] rfl (sbW_self WC) (runV C0 (m_C_afterSilently l K ad h a0 z4) 1 rfl ⟨t_901, t_903, t_29, t_85, t_904⟩ cd_C_afterSilently (by decide) 0 rfl rfl (sbW_self WC) nd_C rfl rfl (Nat.le_of_ble_eq_true rfl) d_C_loopFrom_4) ?_
  refine g_istore_n C0 [(3, .int v4), (2, .int a0), (0, .ref (ad 0)), (1, .int a0)] d_C_loopFrom_7 rfl (by decide) rfl ?_
  refine g_iconst C0 (v := 1) d_C_loopFrom_8 (by decide) ?_
  refine g_istore C0 [(4, .int 1), (3, .int v4), (2, .int a0), (0, .ref (ad 0)), (1, .int a0)] d_C_loopFrom_9 (by decide) rfl ?_
  refine g_iconst C0 (v := 1) d_C_loopFrom_11 (by decide) ?_
  refine g_istore C0 [(5, .int 1), (4, .int 1), (3, .int v4), (2, .int a0), (0, .ref (ad 0)), (1, .int a0)] d_C_loopFrom_12 (by decide) rfl ?_
  refine g_iconst C0 (v := 0) d_C_loopFrom_14 (by decide) ?_
  refine g_istore C0 [(6, .int 0), (5, .int 1), (4, .int 1), (3, .int v4), (2, .int a0), (0, .ref (ad 0)), (1, .int a0)] d_C_loopFrom_15 (by decide) rfl ?_
  refine g_sub [5, 4, 3, 2, 1, 0] (L' := [(0, .ref (ad 0)), (2, .int a0), (3, .int v4), (4, .int 1), (5, .int 1), (6, .int 0)]) rfl ?_
  obtain ⟨t17, z17, hE⟩ := bd_some hE
  refine loopG (fun z_ : Int32 × Int32 × Int32 × Int32 × Int32 => K_C_loopFrom_L17 N z_.1 z_.2.1 z_.2.2.1 z_.2.2.2.1 z_.2.2.2.2 h) (fun z_ : Int32 × Int32 × Int32 × Int32 × Int32 => G p l e rm_C_loopFrom s m args below meth c K A WC 7 0 0 _ 17 [(0, .ref (ad 0)), (2, .int z_.1), (3, .int z_.2.1), (4, .int z_.2.2.1), (5, .int z_.2.2.2.1), (6, .int z_.2.2.2.2)] [] ad h) (fun z_ : Int32 => G p l e rm_C_loopFrom s m args below meth c K A WC 7 0 0 _ 63 [(4, .int z_)] [] ad h) (fun z_ x_ hz k1 k2 => w_C_loopFrom_L17 C0 hr N z_.1 z_.2.1 z_.2.2.1 z_.2.2.2.1 z_.2.2.2.2 h hz k1 k2) _ _ _ z17 ?_
  try dsimp only
  refine g_iload C0 0 d_C_loopFrom_63 rfl ?_
  obtain rfl := Option.some.inj hE
  exact g_iret C0 hr d_C_loopFrom_65
theorem m_C_loopFrom (l : Launch) (K : KT) (ad : Nat → Nat) (h : Hp) (N : Nat) (a0 : Int32) {res : Int32} (hE : K_C_loopFrom N a0 h = some res) : ConI l y_C_loopFrom prog_1_method_47_code 7 (Option.some Jvm.ClassFile.FieldType.int) rm_C_loopFrom K WC ad h [.ref (ad 0), .int a0] res h := fun sz =>
  con_start [(0, .ref (ad 0)), (1, .int a0)] (by decide +kernel) rfl (Nat.le_of_ble_eq_true rfl) (fun p e s m args below meth c C0 hr hnm hsz => w_C_loopFrom C0 hr N a0 h hE)
abbrev y_C_leadFrom : MethodName := ⟨"CanoeSides", "leadFrom", "(II)I"⟩
abbrev rm_C_leadFrom : Room := { frames := 4, cells := 0, slots := 0, locals := 97 }
theorem cd_C_leadFrom : cwd y_C_leadFrom 2 := by decide +kernel
theorem d_C_leadFrom_0 : decode prog_1_method_48_code 0 = .ok (.iload_n 1, 1) := by decide +kernel
theorem d_C_leadFrom_1 : decode prog_1_method_48_code 1 = .ok (.istore_n 3, 1) := by decide +kernel
theorem d_C_leadFrom_2 : decode prog_1_method_48_code 2 = .ok (.iload_n 1, 1) := by decide +kernel
theorem d_C_leadFrom_3 : decode prog_1_method_48_code 3 = .ok (.istore 4, 2) := by decide +kernel
theorem d_C_leadFrom_5 : decode prog_1_method_48_code 5 = .ok (.iconst 0, 1) := by decide +kernel
theorem d_C_leadFrom_6 : decode prog_1_method_48_code 6 = .ok (.istore 5, 2) := by decide +kernel
theorem d_C_leadFrom_8 : decode prog_1_method_48_code 8 = .ok (.iload 5, 2) := by decide +kernel
theorem d_C_leadFrom_10 : decode prog_1_method_48_code 10 = .ok (.iload_n 2, 1) := by decide +kernel
theorem d_C_leadFrom_11 : decode prog_1_method_48_code 11 = .ok (.if_icmp .ge 17, 3) := by decide +kernel
theorem d_C_leadFrom_14 : decode prog_1_method_48_code 14 = .ok (.aload_n 0, 1) := by decide +kernel
theorem d_C_leadFrom_15 : decode prog_1_method_48_code 15 = .ok (.iload 4, 2) := by decide +kernel
theorem d_C_leadFrom_17 : decode prog_1_method_48_code 17 = .ok (.invokevirtual 202, 3) := by decide +kernel
theorem d_C_leadFrom_20 : decode prog_1_method_48_code 20 = .ok (.istore 4, 2) := by decide +kernel
theorem d_C_leadFrom_22 : decode prog_1_method_48_code 22 = .ok (.iinc 5 1, 3) := by decide +kernel
theorem d_C_leadFrom_25 : decode prog_1_method_48_code 25 = .ok (.goto (-17), 3) := by decide +kernel
theorem d_C_leadFrom_28 : decode prog_1_method_48_code 28 = .ok (.iconst 0, 1) := by decide +kernel
theorem d_C_leadFrom_29 : decode prog_1_method_48_code 29 = .ok (.istore 5, 2) := by decide +kernel
theorem d_C_leadFrom_31 : decode prog_1_method_48_code 31 = .ok (.iload 5, 2) := by decide +kernel
theorem d_C_leadFrom_33 : decode prog_1_method_48_code 33 = .ok (.ldc_w 334, 3) := by decide +kernel
theorem d_C_leadFrom_36 : decode prog_1_method_48_code 36 = .ok (.if_icmp .ge 29, 3) := by decide +kernel
theorem d_C_leadFrom_39 : decode prog_1_method_48_code 39 = .ok (.iload_n 3, 1) := by decide +kernel
theorem d_C_leadFrom_40 : decode prog_1_method_48_code 40 = .ok (.iload 4, 2) := by decide +kernel
theorem d_C_leadFrom_42 : decode prog_1_method_48_code 42 = .ok (.if_icmp .eq 23, 3) := by decide +kernel
theorem d_C_leadFrom_45 : decode prog_1_method_48_code 45 = .ok (.aload_n 0, 1) := by decide +kernel
theorem d_C_leadFrom_46 : decode prog_1_method_48_code 46 = .ok (.iload_n 3, 1) := by decide +kernel
theorem d_C_leadFrom_47 : decode prog_1_method_48_code 47 = .ok (.invokevirtual 202, 3) := by decide +kernel
theorem d_C_leadFrom_50 : decode prog_1_method_48_code 50 = .ok (.istore_n 3, 1) := by decide +kernel
theorem d_C_leadFrom_51 : decode prog_1_method_48_code 51 = .ok (.aload_n 0, 1) := by decide +kernel
theorem d_C_leadFrom_52 : decode prog_1_method_48_code 52 = .ok (.iload 4, 2) := by decide +kernel
theorem d_C_leadFrom_54 : decode prog_1_method_48_code 54 = .ok (.invokevirtual 202, 3) := by decide +kernel
theorem d_C_leadFrom_57 : decode prog_1_method_48_code 57 = .ok (.istore 4, 2) := by decide +kernel
theorem d_C_leadFrom_59 : decode prog_1_method_48_code 59 = .ok (.iinc 5 1, 3) := by decide +kernel
theorem d_C_leadFrom_62 : decode prog_1_method_48_code 62 = .ok (.goto (-31), 3) := by decide +kernel
theorem d_C_leadFrom_65 : decode prog_1_method_48_code 65 = .ok (.iload 5, 2) := by decide +kernel
theorem d_C_leadFrom_67 : decode prog_1_method_48_code 67 = .ok (.ireturn, 1) := by decide +kernel
theorem w_C_leadFrom_L8 {p : Program} {l : Launch} {e : Env} {s : State} {m : MethodId} {args : Array Value} {below : List Frame} {meth : Method} {c : Code} {K : KT} {A : Nat → Prop} {Q : State → Prop} (C0 : Cx p s m args meth c prog_1_method_48_code "CanoeSides" 6 K A) (hr : meth.sig.returnType = (Option.some Jvm.ClassFile.FieldType.int)) {ad : Nat → Nat} (N : Nat) (x2 : Int32) (x3 : Int32) (x4 : Int32) (x5 : Int32) (h : Hp) {x_ : (Int32 × Int32) ⊕ (Int32)} (hE : K_C_leadFrom_L8 N x2 x3 x4 x5 h = some x_) (hk1 : ∀ z_, x_ = .inl z_ → G p l e rm_C_leadFrom s m args below meth c K A WC 6 0 0 Q 8 [(0, .ref (ad 0)), (2, .int x2), (3, .int x3), (4, .int z_.1), (5, .int z_.2)] [] ad h) (hk3 : ∀ z_, x_ = .inr z_ → G p l e rm_C_leadFrom s m args below meth c K A WC 6 0 0 Q 28 [(0, .ref (ad 0)), (3, .int x3), (4, .int z_)] [] ad h) : G p l e rm_C_leadFrom s m args below meth c K A WC 6 0 0 Q 8 [(0, .ref (ad 0)), (2, .int x2), (3, .int x3), (4, .int x4), (5, .int x5)] [] ad h := by
  unfold K_C_leadFrom_L8 at hE
  refine g_iload C0 4 d_C_leadFrom_8 rfl ?_
  refine g_iload_n C0 1 d_C_leadFrom_10 rfl rfl ?_
  have hB := ite_some hE
  refine g_icmp_ge C0 (tgt := 28) d_C_leadFrom_11 (by decide) (fun c_ => ?_) (fun c_ => ?_)
  · replace hE := hB.1 c_
    refine g_sub [0, 2, 3] (L' := [(0, .ref (ad 0)), (3, .int x3), (4, .int x4)]) rfl ?_
    exact hk3 _ (Option.some.inj hE).symm
  · replace hE := hB.2 c_
    refine g_aload_n C0 0 d_C_leadFrom_14 rfl rfl ?_
    refine g_iload C0 3 d_C_leadFrom_15 rfl ?_
    obtain ⟨v17, z17, hE⟩ := bd_some hE
    refine g_calliP C0 nd_C [0, 2, 10, 11, 12, 15, 16, 17, 20, 21, 22, 25, 26, 27, 30, 33, 35, 36, 40, 41, 42, 43, 45, 46, 47, 48, 49, 55, 56, 60, 61, 62, 63, 64] rfl (sbW_self WC) (runV C0 (m_C_afterSilently l K ad h x4 z17) 1 rfl ⟨t_901, t_903, t_29, t_85, t_904⟩ cd_C_afterSilently (by decide) 0 rfl rfl (sbW_self WC) nd_C rfl rfl (Nat.le_of_ble_eq_true rfl) d_C_leadFrom_17) ?_
    refine g_istore C0 [(4, .int v17), (0, .ref (ad 0)), (2, .int x2), (3, .int x3), (5, .int x5)] d_C_leadFrom_20 (by decide) rfl ?_
    obtain ⟨v22, e22, hE⟩ := nm_some hE
    refine g_iinc C0 4 [(5, .int v22), (4, .int v17), (0, .ref (ad 0)), (2, .int x2), (3, .int x3)] d_C_leadFrom_22 rfl (by rw [e22]; rfl) (by decide) rfl ?_
    refine g_goto C0 (tgt := 8) d_C_leadFrom_25 (by decide) ?_
    refine g_sub [2, 3, 4, 1, 0] (L' := [(0, .ref (ad 0)), (2, .int x2), (3, .int x3), (4, .int v17), (5, .int v22)]) rfl ?_
    exact hk1 _ (Option.some.inj hE).symm
theorem w_C_leadFrom_L31 {p : Program} {l : Launch} {e : Env} {s : State} {m : MethodId} {args : Array Value} {below : List Frame} {meth : Method} {c : Code} {K : KT} {A : Nat → Prop} {Q : State → Prop} (C0 : Cx p s m args meth c prog_1_method_48_code "CanoeSides" 6 K A) (hr : meth.sig.returnType = (Option.some Jvm.ClassFile.FieldType.int)) {ad : Nat → Nat} (N : Nat) (x3 : Int32) (x4 : Int32) (x5 : Int32) (h : Hp) {x_ : (Int32 × Int32 × Int32) ⊕ (Int32)} (hE : K_C_leadFrom_L31 N x3 x4 x5 h = some x_) (hk1 : ∀ z_, x_ = .inl z_ → G p l e rm_C_leadFrom s m args below meth c K A WC 6 0 0 Q 31 [(0, .ref (ad 0)), (3, .int z_.1), (4, .int z_.2.1), (5, .int z_.2.2)] [] ad h) (hk3 : ∀ z_, x_ = .inr z_ → G p l e rm_C_leadFrom s m args below meth c K A WC 6 0 0 Q 65 [(5, .int z_)] [] ad h) : G p l e rm_C_leadFrom s m args below meth c K A WC 6 0 0 Q 31 [(0, .ref (ad 0)), (3, .int x3), (4, .int x4), (5, .int x5)] [] ad h := by
  unfold K_C_leadFrom_L31 at hE
  refine g_iload C0 3 d_C_leadFrom_31 rfl ?_
  refine g_ldcw C0 (v := 1000000) t_913 d_C_leadFrom_33 ?_
  have hB := ite_some hE
  refine g_icmp_ge C0 (tgt := 65) d_C_leadFrom_36 (by decide) (fun c_ => ?_) (fun c_ => ?_)
  · replace hE := hB.1 c_
    refine g_sub [3] (L' := [(5, .int x5)]) rfl ?_
    exact hk3 _ (Option.some.inj hE).symm
  · replace hE := hB.2 c_
    refine g_iload_n C0 1 d_C_leadFrom_39 rfl rfl ?_
    refine g_iload C0 2 d_C_leadFrom_40 rfl ?_
    have hB := ite_some hE
    refine g_icmp_eq C0 (tgt := 65) d_C_leadFrom_42 (by decide) (fun c_ => ?_) (fun c_ => ?_)
    · replace hE := hB.1 c_
      refine g_sub [3] (L' := [(5, .int x5)]) rfl ?_
      exact hk3 _ (Option.some.inj hE).symm
    · replace hE := hB.2 c_
      refine g_aload_n C0 0 d_C_leadFrom_45 rfl rfl ?_
      refine g_iload_n C0 1 d_C_leadFrom_46 rfl rfl ?_
      obtain ⟨v47, z47, hE⟩ := bd_some hE
      refine g_calliP C0 nd_C [0, 2, 10, 11, 12, 15, 16, 17, 20, 21, 22, 25, 26, 27, 30, 33, 35, 36, 40, 41, 42, 43, 45, 46, 47, 48, 49, 55, 56, 60, 61, 62, 63, 64] rfl (sbW_self WC) (runV C0 (m_C_afterSilently l K ad h x3 z47) 1 rfl ⟨t_901, t_903, t_29, t_85, t_904⟩ cd_C_afterSilently (by decide) 0 rfl rfl (sbW_self WC) nd_C rfl rfl (Nat.le_of_ble_eq_true rfl) d_C_leadFrom_47) ?_
      refine g_istore_n C0 [(3, .int v47), (0, .ref (ad 0)), (4, .int x4), (5, .int x5)] d_C_leadFrom_50 rfl (by decide) rfl ?_
      refine g_aload_n C0 1 d_C_leadFrom_51 rfl rfl ?_
      refine g_iload C0 2 d_C_leadFrom_52 rfl ?_
      obtain ⟨v54, z54, hE⟩ := bd_some hE
      refine g_calliP C0 nd_C [0, 2, 10, 11, 12, 15, 16, 17, 20, 21, 22, 25, 26, 27, 30, 33, 35, 36, 40, 41, 42, 43, 45, 46, 47, 48, 49, 55, 56, 60, 61, 62, 63, 64] rfl (sbW_self WC) (runV C0 (m_C_afterSilently l K ad h x4 z54) 1 rfl ⟨t_901, t_903, t_29, t_85, t_904⟩ cd_C_afterSilently (by decide) 0 rfl rfl (sbW_self WC) nd_C rfl rfl (Nat.le_of_ble_eq_true rfl) d_C_leadFrom_54) ?_
      refine g_istore C0 [(4, .int v54), (3, .int v47), (0, .ref (ad 0)), (5, .int x5)] d_C_leadFrom_57 (by decide) rfl ?_
      obtain ⟨v59, e59, hE⟩ := nm_some hE
      refine g_iinc C0 3 [(5, .int v59), (4, .int v54), (3, .int v47), (0, .ref (ad 0))] d_C_leadFrom_59 rfl (by rw [e59]; rfl) (by decide) rfl ?_
      refine g_goto C0 (tgt := 31) d_C_leadFrom_62 (by decide) ?_
      refine g_sub [3, 2, 1, 0] (L' := [(0, .ref (ad 0)), (3, .int v47), (4, .int v54), (5, .int v59)]) rfl ?_
      exact hk1 _ (Option.some.inj hE).symm
theorem w_C_leadFrom {p : Program} {l : Launch} {e : Env} {s : State} {m : MethodId} {args : Array Value} {below : List Frame} {meth : Method} {c : Code} {K : KT} {A : Nat → Prop} (C0 : Cx p s m args meth c prog_1_method_48_code "CanoeSides" 6 K A) (hr : meth.sig.returnType = (Option.some Jvm.ClassFile.FieldType.int)) {ad : Nat → Nat} (N : Nat) (a0 : Int32) (b0 : Int32) (h : Hp) {res : Int32} (hE : K_C_leadFrom N a0 b0 h = some res) : G p l e rm_C_leadFrom s m args below meth c K A WC 6 0 0 (QI s args below K A WC 0 0 ad res h) 0 [(0, .ref (ad 0)), (1, .int a0), (2, .int b0)] [] ad h := by
  unfold K_C_leadFrom at hE
  refine g_iload_n C0 1 d_C_leadFrom_0 rfl rfl ?_
  refine g_istore_n C0 [(3, .int a0), (0, .ref (ad 0)), (1, .int a0), (2, .int b0)] d_C_leadFrom_1 rfl (by decide) rfl ?_
  refine g_iload_n C0 2 d_C_leadFrom_2 rfl rfl ?_
  refine g_istore C0 [(4, .int a0), (3, .int a0), (0, .ref (ad 0)), (1, .int a0), (2, .int b0)] d_C_leadFrom_3 (by decide) rfl ?_
  refine g_iconst C0 (v := 0) d_C_leadFrom_5 (by decide) ?_
  refine g_istore C0 [(5, .int 0), (4, .int a0), (3, .int a0), (0, .ref (ad 0)), (1, .int a0), (2, .int b0)] d_C_leadFrom_6 (by decide) rfl ?_
  refine g_sub [3, 5, 2, 1, 0] (L' := [(0, .ref (ad 0)), (2, .int b0), (3, .int a0), (4, .int a0), (5, .int 0)]) rfl ?_
  obtain ⟨t8, z8, hE⟩ := bd_some hE
  refine loopG (fun z_ : Int32 × Int32 => K_C_leadFrom_L8 N b0 a0 z_.1 z_.2 h) (fun z_ : Int32 × Int32 => G p l e rm_C_leadFrom s m args below meth c K A WC 6 0 0 _ 8 [(0, .ref (ad 0)), (2, .int b0), (3, .int a0), (4, .int z_.1), (5, .int z_.2)] [] ad h) (fun z_ : Int32 => G p l e rm_C_leadFrom s m args below meth c K A WC 6 0 0 _ 28 [(0, .ref (ad 0)), (3, .int a0), (4, .int z_)] [] ad h) (fun z_ x_ hz k1 k2 => w_C_leadFrom_L8 C0 hr N b0 a0 z_.1 z_.2 h hz k1 k2) _ _ _ z8 ?_
  try dsimp only
  refine g_iconst C0 (v := 0) d_C_leadFrom_28 (by decide) ?_
  refine g_istore C0 [(5, .int 0), (0, .ref (ad 0)), (3, .int a0), (4, .int t8)] d_C_leadFrom_29 (by decide) rfl ?_
  refine g_sub [1, 2, 3, 0] (L' := [(0, .ref (ad 0)), (3, .int a0), (4, .int t8), (5, .int 0)]) rfl ?_
  obtain ⟨t31, z31, hE⟩ := bd_some hE
  refine loopG (fun z_ : Int32 × Int32 × Int32 => K_C_leadFrom_L31 N z_.1 z_.2.1 z_.2.2 h) (fun z_ : Int32 × Int32 × Int32 => G p l e rm_C_leadFrom s m args below meth c K A WC 6 0 0 _ 31 [(0, .ref (ad 0)), (3, .int z_.1), (4, .int z_.2.1), (5, .int z_.2.2)] [] ad h) (fun z_ : Int32 => G p l e rm_C_leadFrom s m args below meth c K A WC 6 0 0 _ 65 [(5, .int z_)] [] ad h) (fun z_ x_ hz k1 k2 => w_C_leadFrom_L31 C0 hr N z_.1 z_.2.1 z_.2.2 h hz k1 k2) _ _ _ z31 ?_
  try dsimp only
  refine g_iload C0 0 d_C_leadFrom_65 rfl ?_
  obtain rfl := Option.some.inj hE
  exact g_iret C0 hr d_C_leadFrom_67
theorem m_C_leadFrom (l : Launch) (K : KT) (ad : Nat → Nat) (h : Hp) (N : Nat) (a0 : Int32) (b0 : Int32) {res : Int32} (hE : K_C_leadFrom N a0 b0 h = some res) : ConI l y_C_leadFrom prog_1_method_48_code 6 (Option.some Jvm.ClassFile.FieldType.int) rm_C_leadFrom K WC ad h [.ref (ad 0), .int a0, .int b0] res h := fun sz =>
  con_start [(0, .ref (ad 0)), (1, .int a0), (2, .int b0)] (by decide +kernel) rfl (Nat.le_of_ble_eq_true rfl) (fun p e s m args below meth c C0 hr hnm hsz => w_C_leadFrom C0 hr N a0 b0 h hE)
abbrev y_C_round : MethodName := ⟨"CanoeSides", "round", "(II)I"⟩
abbrev rm_C_round : Room := { frames := 5, cells := 0, slots := 0, locals := 123 }
theorem cd_C_round : cwd y_C_round 2 := by decide +kernel
theorem d_C_round_0 : decode prog_1_method_16_code 0 = .ok (.iload_n 1, 1) := by decide +kernel
theorem d_C_round_1 : decode prog_1_method_16_code 1 = .ok (.iconst 0, 1) := by decide +kernel
theorem d_C_round_2 : decode prog_1_method_16_code 2 = .ok (.bipush 15, 2) := by decide +kernel
theorem d_C_round_4 : decode prog_1_method_16_code 4 = .ok (.invokestatic 96, 3) := by decide +kernel
theorem d_C_round_7 : decode prog_1_method_16_code 7 = .ok (.ifCond .ne 12, 3) := by decide +kernel
theorem d_C_round_10 : decode prog_1_method_16_code 10 = .ok (.iload_n 2, 1) := by decide +kernel
theorem d_C_round_11 : decode prog_1_method_16_code 11 = .ok (.iconst 0, 1) := by decide +kernel
theorem d_C_round_12 : decode prog_1_method_16_code 12 = .ok (.iconst 1, 1) := by decide +kernel
theorem d_C_round_13 : decode prog_1_method_16_code 13 = .ok (.invokestatic 96, 3) := by decide +kernel
theorem d_C_round_16 : decode prog_1_method_16_code 16 = .ok (.ifCond .eq 6, 3) := by decide +kernel
theorem d_C_round_19 : decode prog_1_method_16_code 19 = .ok (.ldc 100, 2) := by decide +kernel
theorem d_C_round_21 : decode prog_1_method_16_code 21 = .ok (.ireturn, 1) := by decide +kernel
theorem d_C_round_22 : decode prog_1_method_16_code 22 = .ok (.aload_n 0, 1) := by decide +kernel
theorem d_C_round_23 : decode prog_1_method_16_code 23 = .ok (.invokevirtual 143, 3) := by decide +kernel
theorem d_C_round_26 : decode prog_1_method_16_code 26 = .ok (.ifCond .eq 6, 3) := by decide +kernel
theorem d_C_round_29 : decode prog_1_method_16_code 29 = .ok (.ldc 147, 2) := by decide +kernel
theorem d_C_round_31 : decode prog_1_method_16_code 31 = .ok (.ireturn, 1) := by decide +kernel
theorem d_C_round_32 : decode prog_1_method_16_code 32 = .ok (.aload_n 0, 1) := by decide +kernel
theorem d_C_round_33 : decode prog_1_method_16_code 33 = .ok (.invokevirtual 158, 3) := by decide +kernel
theorem d_C_round_36 : decode prog_1_method_16_code 36 = .ok (.bipush 16, 2) := by decide +kernel
theorem d_C_round_38 : decode prog_1_method_16_code 38 = .ok (.imul, 1) := by decide +kernel
theorem d_C_round_39 : decode prog_1_method_16_code 39 = .ok (.iload_n 1, 1) := by decide +kernel
theorem d_C_round_40 : decode prog_1_method_16_code 40 = .ok (.iadd, 1) := by decide +kernel
theorem d_C_round_41 : decode prog_1_method_16_code 41 = .ok (.istore_n 3, 1) := by decide +kernel
theorem d_C_round_42 : decode prog_1_method_16_code 42 = .ok (.aload_n 0, 1) := by decide +kernel
theorem d_C_round_43 : decode prog_1_method_16_code 43 = .ok (.iload_n 3, 1) := by decide +kernel
theorem d_C_round_44 : decode prog_1_method_16_code 44 = .ok (.invokevirtual 205, 3) := by decide +kernel
theorem d_C_round_47 : decode prog_1_method_16_code 47 = .ok (.istore 4, 2) := by decide +kernel
theorem d_C_round_49 : decode prog_1_method_16_code 49 = .ok (.iload_n 2, 1) := by decide +kernel
theorem d_C_round_50 : decode prog_1_method_16_code 50 = .ok (.ifCond .ne 13, 3) := by decide +kernel
theorem d_C_round_53 : decode prog_1_method_16_code 53 = .ok (.aload_n 0, 1) := by decide +kernel
theorem d_C_round_54 : decode prog_1_method_16_code 54 = .ok (.iload_n 3, 1) := by decide +kernel
theorem d_C_round_55 : decode prog_1_method_16_code 55 = .ok (.iload 4, 2) := by decide +kernel
theorem d_C_round_57 : decode prog_1_method_16_code 57 = .ok (.invokevirtual 208, 3) := by decide +kernel
theorem d_C_round_60 : decode prog_1_method_16_code 60 = .ok (.goto 5, 3) := by decide +kernel
theorem d_C_round_63 : decode prog_1_method_16_code 63 = .ok (.iload 4, 2) := by decide +kernel
theorem d_C_round_65 : decode prog_1_method_16_code 65 = .ok (.ireturn, 1) := by decide +kernel
theorem w_C_round {p : Program} {l : Launch} {e : Env} {s : State} {m : MethodId} {args : Array Value} {below : List Frame} {meth : Method} {c : Code} {K : KT} {A : Nat → Prop} (C0 : Cx p s m args meth c prog_1_method_16_code "CanoeSides" 5 K A) (hr : meth.sig.returnType = (Option.some Jvm.ClassFile.FieldType.int)) {ad : Nat → Nat} (N : Nat) (a0 : Int32) (b0 : Int32) (h : Hp) {res : Int32} (hE : K_C_round N a0 b0 h = some res) : G p l e rm_C_round s m args below meth c K A WC 5 0 0 (QI s args below K A WC 0 0 ad res h) 0 [(0, .ref (ad 0)), (1, .int a0), (2, .int b0)] [] ad h := by
  unfold K_C_round at hE
  refine g_iload_n C0 1 d_C_round_0 rfl rfl ?_
  refine g_iconst C0 (v := 0) d_C_round_1 (by decide) ?_
  refine g_bipush C0 (v := 15) d_C_round_2 (by decide) ?_
  obtain ⟨v4, z4, hE⟩ := bd_some hE
  refine g_calliP C0 nd_C [] rfl (sb_E_C) (runS C0 (m_C_isOutside l K ad h a0 0 15 z4) 3 ⟨t_499, t_500, t_85, t_501⟩ cd_C_isOutside (by decide) (sb_E_C) nd_E rfl rfl (Nat.le_of_ble_eq_true rfl) d_C_round_4) ?_
  have hB := ite_some hE
  refine g_if_ne C0 (tgt := 19) d_C_round_7 (by decide) (fun c_ => ?_) (fun c_ => ?_)
  · replace hE := hB.2 c_
    refine g_ldc C0 (v := (-1000000002)) t_502 d_C_round_19 ?_
    obtain rfl := Option.some.inj hE
    exact g_iret C0 hr d_C_round_21
  · replace hE := hB.1 c_
    refine g_iload_n C0 2 d_C_round_10 rfl rfl ?_
    refine g_iconst C0 (v := 0) d_C_round_11 (by decide) ?_
    refine g_iconst C0 (v := 1) d_C_round_12 (by decide) ?_
    obtain ⟨v13, z13, hE⟩ := bd_some hE
    refine g_calliP C0 nd_C [] rfl (sb_E_C) (runS C0 (m_C_isOutside l K ad h b0 0 1 z13) 3 ⟨t_499, t_500, t_85, t_501⟩ cd_C_isOutside (by decide) (sb_E_C) nd_E rfl rfl (Nat.le_of_ble_eq_true rfl) d_C_round_13) ?_
    have hB := ite_some hE
    refine g_if_eq C0 (tgt := 22) d_C_round_16 (by decide) (fun c_ => ?_) (fun c_ => ?_)
    · replace hE := hB.1 c_
      refine g_aload_n C0 0 d_C_round_22 rfl rfl ?_
      obtain ⟨v23, z23, hE⟩ := bd_some hE
      refine g_calliP C0 nd_C [0, 2, 10, 11, 12, 15, 16, 17, 20, 21, 22, 25, 26, 27, 30, 33, 35, 36, 40, 41, 42, 43, 45, 46, 47, 48, 49, 55, 56, 60, 61, 62, 63, 64] rfl (sbW_self WC) (runV C0 (m_C_noSquares l K ad h z23) 0 rfl ⟨t_755, t_757, t_18, t_85, t_758⟩ cd_C_noSquares (by decide) 0 rfl rfl (sbW_self WC) nd_C rfl rfl (Nat.le_of_ble_eq_true rfl) d_C_round_23) ?_
      have hB := ite_some hE
      refine g_if_eq C0 (tgt := 32) d_C_round_26 (by decide) (fun c_ => ?_) (fun c_ => ?_)
      · replace hE := hB.1 c_
        refine g_aload_n C0 0 d_C_round_32 rfl rfl ?_
        obtain ⟨v33, z33, hE⟩ := bd_some hE
        refine g_calliP C0 nd_C [0, 2, 10, 11, 12, 15, 16, 17, 20, 21, 22, 25, 26, 27, 30, 33, 35, 36, 40, 41, 42, 43, 45, 46, 47, 48, 49, 55, 56, 60, 61, 62, 63, 64] rfl (sbW_self WC) (runV C0 (m_C_moment l K ad h z33) 0 rfl ⟨t_764, t_766, t_20, t_85, t_767⟩ cd_C_moment (by decide) 0 rfl rfl (sbW_self WC) nd_C rfl rfl (Nat.le_of_ble_eq_true rfl) d_C_round_33) ?_
        refine g_bipush C0 (v := 16) d_C_round_36 (by decide) ?_
        refine g_imul C0 d_C_round_38 ?_
        refine g_iload_n C0 1 d_C_round_39 rfl rfl ?_
        refine g_iadd C0 d_C_round_40 ?_
        obtain ⟨v41, e41, hE⟩ := nm_some hE
        refine g_top e41 ?_
        refine g_istore_n C0 [(3, .int v41), (0, .ref (ad 0)), (1, .int a0), (2, .int b0)] d_C_round_41 rfl (by decide) rfl ?_
        refine g_aload_n C0 1 d_C_round_42 rfl rfl ?_
        refine g_iload_n C0 0 d_C_round_43 rfl rfl ?_
        obtain ⟨v44, z44, hE⟩ := bd_some hE
        refine g_calliP C0 nd_C [0, 2, 10, 11, 12, 15, 16, 17, 20, 21, 22, 25, 26, 27, 30, 33, 35, 36, 40, 41, 42, 43, 45, 46, 47, 48, 49, 55, 56, 60, 61, 62, 63, 64] rfl (sbW_self WC) (runV C0 (m_C_loopFrom l K ad h N v41 z44) 1 rfl ⟨t_909, t_911, t_30, t_85, t_912⟩ cd_C_loopFrom (by decide) 0 rfl rfl (sbW_self WC) nd_C rfl rfl (Nat.le_of_ble_eq_true rfl) d_C_round_44) ?_
        refine g_istore C0 [(4, .int v44), (3, .int v41), (0, .ref (ad 0)), (1, .int a0), (2, .int b0)] d_C_round_47 (by decide) rfl ?_
        refine g_iload_n C0 4 d_C_round_49 rfl rfl ?_
        have hB := ite_some hE
        refine g_if_ne C0 (tgt := 63) d_C_round_50 (by decide) (fun c_ => ?_) (fun c_ => ?_)
        · replace hE := hB.2 c_
          refine g_iload C0 0 d_C_round_63 rfl ?_
          obtain rfl := Option.some.inj hE
          exact g_iret C0 hr d_C_round_65
        · replace hE := hB.1 c_
          refine g_aload_n C0 2 d_C_round_53 rfl rfl ?_
          refine g_iload_n C0 1 d_C_round_54 rfl rfl ?_
          refine g_iload C0 0 d_C_round_55 rfl ?_
          obtain ⟨v57, z57, hE⟩ := bd_some hE
          refine g_calliP C0 nd_C [0, 2, 10, 11, 12, 15, 16, 17, 20, 21, 22, 25, 26, 27, 30, 33, 35, 36, 40, 41, 42, 43, 45, 46, 47, 48, 49, 55, 56, 60, 61, 62, 63, 64] rfl (sbW_self WC) (runV C0 (m_C_leadFrom l K ad h N v41 v44 z57) 2 rfl ⟨t_914, t_916, t_31, t_85, t_917⟩ cd_C_leadFrom (by decide) 0 rfl rfl (sbW_self WC) nd_C rfl rfl (Nat.le_of_ble_eq_true rfl) d_C_round_57) ?_
          refine g_goto C0 (tgt := 65) d_C_round_60 (by decide) ?_
          obtain rfl := Option.some.inj hE
          exact g_iret C0 hr d_C_round_65
      · replace hE := hB.2 c_
        refine g_ldc C0 (v := (-1000000003)) t_759 d_C_round_29 ?_
        obtain rfl := Option.some.inj hE
        exact g_iret C0 hr d_C_round_31
    · replace hE := hB.2 c_
      refine g_ldc C0 (v := (-1000000002)) t_502 d_C_round_19 ?_
      obtain rfl := Option.some.inj hE
      exact g_iret C0 hr d_C_round_21
theorem m_C_round (l : Launch) (K : KT) (ad : Nat → Nat) (h : Hp) (N : Nat) (a0 : Int32) (b0 : Int32) {res : Int32} (hE : K_C_round N a0 b0 h = some res) : ConI l y_C_round prog_1_method_16_code 5 (Option.some Jvm.ClassFile.FieldType.int) rm_C_round K WC ad h [.ref (ad 0), .int a0, .int b0] res h := fun sz =>
  con_start [(0, .ref (ad 0)), (1, .int a0), (2, .int b0)] (by decide +kernel) rfl (Nat.le_of_ble_eq_true rfl) (fun p e s m args below meth c C0 hr hnm hsz => w_C_round C0 hr N a0 b0 h hE)
abbrev y_C_offStraight : MethodName := ⟨"CanoeSides", "offStraight", "(IIZ)I"⟩
abbrev rm_C_offStraight : Room := { frames := 1, cells := 0, slots := 0, locals := 21 }
theorem cd_C_offStraight : cwd y_C_offStraight 3 := by decide +kernel
theorem d_C_offStraight_0 : decode prog_1_method_49_code 0 = .ok (.iconst 0, 1) := by decide +kernel
theorem d_C_offStraight_1 : decode prog_1_method_49_code 1 = .ok (.istore 4, 2) := by decide +kernel
theorem d_C_offStraight_3 : decode prog_1_method_49_code 3 = .ok (.iconst 0, 1) := by decide +kernel
theorem d_C_offStraight_4 : decode prog_1_method_49_code 4 = .ok (.istore 5, 2) := by decide +kernel
theorem d_C_offStraight_6 : decode prog_1_method_49_code 6 = .ok (.iconst 0, 1) := by decide +kernel
theorem d_C_offStraight_7 : decode prog_1_method_49_code 7 = .ok (.istore 6, 2) := by decide +kernel
theorem d_C_offStraight_9 : decode prog_1_method_49_code 9 = .ok (.iload 6, 2) := by decide +kernel
theorem d_C_offStraight_11 : decode prog_1_method_49_code 11 = .ok (.iload_n 2, 1) := by decide +kernel
theorem d_C_offStraight_12 : decode prog_1_method_49_code 12 = .ok (.if_icmp .ge 80, 3) := by decide +kernel
theorem d_C_offStraight_15 : decode prog_1_method_49_code 15 = .ok (.iload_n 1, 1) := by decide +kernel
theorem d_C_offStraight_16 : decode prog_1_method_49_code 16 = .ok (.ifCond .le 17, 3) := by decide +kernel
theorem d_C_offStraight_19 : decode prog_1_method_49_code 19 = .ok (.iload 6, 2) := by decide +kernel
theorem d_C_offStraight_21 : decode prog_1_method_49_code 21 = .ok (.iload_n 1, 1) := by decide +kernel
theorem d_C_offStraight_22 : decode prog_1_method_49_code 22 = .ok (.idiv, 1) := by decide +kernel
theorem d_C_offStraight_23 : decode prog_1_method_49_code 23 = .ok (.iconst 2, 1) := by decide +kernel
theorem d_C_offStraight_24 : decode prog_1_method_49_code 24 = .ok (.irem, 1) := by decide +kernel
theorem d_C_offStraight_25 : decode prog_1_method_49_code 25 = .ok (.iconst 1, 1) := by decide +kernel
theorem d_C_offStraight_26 : decode prog_1_method_49_code 26 = .ok (.if_icmp .ne 7, 3) := by decide +kernel
theorem d_C_offStraight_29 : decode prog_1_method_49_code 29 = .ok (.iconst 5, 1) := by decide +kernel
theorem d_C_offStraight_30 : decode prog_1_method_49_code 30 = .ok (.goto 4, 3) := by decide +kernel
theorem d_C_offStraight_33 : decode prog_1_method_49_code 33 = .ok (.iconst 0, 1) := by decide +kernel
theorem d_C_offStraight_34 : decode prog_1_method_49_code 34 = .ok (.istore 7, 2) := by decide +kernel
theorem d_C_offStraight_36 : decode prog_1_method_49_code 36 = .ok (.iload 4, 2) := by decide +kernel
theorem d_C_offStraight_38 : decode prog_1_method_49_code 38 = .ok (.aload_n 0, 1) := by decide +kernel
theorem d_C_offStraight_39 : decode prog_1_method_49_code 39 = .ok (.getfield 39, 3) := by decide +kernel
theorem d_C_offStraight_42 : decode prog_1_method_49_code 42 = .ok (.iload 7, 2) := by decide +kernel
theorem d_C_offStraight_44 : decode prog_1_method_49_code 44 = .ok (.invokevirtual 171, 3) := by decide +kernel
theorem d_C_offStraight_47 : decode prog_1_method_49_code 47 = .ok (.iadd, 1) := by decide +kernel
theorem d_C_offStraight_48 : decode prog_1_method_49_code 48 = .ok (.bipush 7, 2) := by decide +kernel
theorem d_C_offStraight_50 : decode prog_1_method_49_code 50 = .ok (.iand, 1) := by decide +kernel
theorem d_C_offStraight_51 : decode prog_1_method_49_code 51 = .ok (.istore 4, 2) := by decide +kernel
theorem d_C_offStraight_53 : decode prog_1_method_49_code 53 = .ok (.iload 5, 2) := by decide +kernel
theorem d_C_offStraight_55 : decode prog_1_method_49_code 55 = .ok (.aload_n 0, 1) := by decide +kernel
theorem d_C_offStraight_56 : decode prog_1_method_49_code 56 = .ok (.getfield 39, 3) := by decide +kernel
theorem d_C_offStraight_59 : decode prog_1_method_49_code 59 = .ok (.iload 7, 2) := by decide +kernel
theorem d_C_offStraight_61 : decode prog_1_method_49_code 61 = .ok (.invokevirtual 174, 3) := by decide +kernel
theorem d_C_offStraight_64 : decode prog_1_method_49_code 64 = .ok (.iload_n 3, 1) := by decide +kernel
theorem d_C_offStraight_65 : decode prog_1_method_49_code 65 = .ok (.ifCond .eq 11, 3) := by decide +kernel
theorem d_C_offStraight_68 : decode prog_1_method_49_code 68 = .ok (.iload 4, 2) := by decide +kernel
theorem d_C_offStraight_70 : decode prog_1_method_49_code 70 = .ok (.invokestatic 335, 3) := by decide +kernel
theorem d_C_offStraight_73 : decode prog_1_method_49_code 73 = .ok (.goto 9, 3) := by decide +kernel
theorem d_C_offStraight_76 : decode prog_1_method_49_code 76 = .ok (.iload 4, 2) := by decide +kernel
theorem d_C_offStraight_78 : decode prog_1_method_49_code 78 = .ok (.invokestatic 338, 3) := by decide +kernel
theorem d_C_offStraight_81 : decode prog_1_method_49_code 81 = .ok (.ineg, 1) := by decide +kernel
theorem d_C_offStraight_82 : decode prog_1_method_49_code 82 = .ok (.imul, 1) := by decide +kernel
theorem d_C_offStraight_83 : decode prog_1_method_49_code 83 = .ok (.iadd, 1) := by decide +kernel
theorem d_C_offStraight_84 : decode prog_1_method_49_code 84 = .ok (.istore 5, 2) := by decide +kernel
theorem d_C_offStraight_86 : decode prog_1_method_49_code 86 = .ok (.iinc 6 1, 3) := by decide +kernel
theorem d_C_offStraight_89 : decode prog_1_method_49_code 89 = .ok (.goto (-80), 3) := by decide +kernel
theorem d_C_offStraight_92 : decode prog_1_method_49_code 92 = .ok (.iload 5, 2) := by decide +kernel
theorem d_C_offStraight_94 : decode prog_1_method_49_code 94 = .ok (.ireturn, 1) := by decide +kernel
theorem w_C_offStraight_J82 {p : Program} {l : Launch} {e : Env} {s : State} {m : MethodId} {args : Array Value} {below : List Frame} {meth : Method} {c : Code} {K : KT} {A : Nat → Prop} {Q : State → Prop} (C0 : Cx p s m args meth c prog_1_method_49_code "CanoeSides" 8 K A) (hr : meth.sig.returnType = (Option.some Jvm.ClassFile.FieldType.int)) {ad : Nat → Nat} (N : Nat) (x1 : Int32) (x2 : Int32) (x3 : Int32) (x4 : Int32) (x6 : Int32) (y0 : Int32) (y1 : Int32) (y2 : Int32) (h : Hp) {x_ : (Int32 × Int32 × Int32) ⊕ (Int32)} (hE : K_C_offStraight_J82 N x1 x2 x3 x4 x6 y0 y1 y2 h = some x_) (hk1 : ∀ z_, x_ = .inl z_ → G p l e rm_C_offStraight s m args below meth c K A WC 8 0 0 Q 9 [(0, .ref (ad 0)), (1, .int x1), (2, .int x2), (3, .int x3), (4, .int z_.1), (5, .int z_.2.1), (6, .int z_.2.2)] [] ad h) (hk3 : ∀ z_, x_ = .inr z_ → G p l e rm_C_offStraight s m args below meth c K A WC 8 0 0 Q 92 [(5, .int z_)] [] ad h) : G p l e rm_C_offStraight s m args below meth c K A WC 8 0 0 Q 82 [(0, .ref (ad 0)), (1, .int x1), (2, .int x2), (3, .int x3), (4, .int x4), (6, .int x6)] [.int y2, .int y1, .int y0] ad h := by
  unfold K_C_offStraight_J82 at hE
  refine g_imul C0 d_C_offStraight_82 ?_
  refine g_iadd C0 d_C_offStraight_83 ?_
  obtain ⟨v84, e84, hE⟩ := nm_some hE
  refine g_top e84 ?_
  refine g_istore C0 [(5, .int v84), (0, .ref (ad 0)), (1, .int x1), (2, .int x2), (3, .int x3), (4, .int x4), (6, .int x6)] d_C_offStraight_84 (by decide) rfl ?_
  obtain ⟨v86, e86, hE⟩ := nm_some hE
  refine g_iinc C0 6 [(6, .int v86), (5, .int v84), (0, .ref (ad 0)), (1, .int x1), (2, .int x2), (3, .int x3), (4, .int x4)] d_C_offStraight_86 rfl (by rw [e86]; rfl) (by decide) rfl ?_
  refine g_goto C0 (tgt := 9) d_C_offStraight_89 (by decide) ?_
  refine g_sub [2, 3, 4, 5, 6, 1, 0] (L' := [(0, .ref (ad 0)), (1, .int x1), (2, .int x2), (3, .int x3), (4, .int x4), (5, .int v84), (6, .int v86)]) rfl ?_
  exact hk1 _ (Option.some.inj hE).symm
theorem w_C_offStraight_J34 {p : Program} {l : Launch} {e : Env} {s : State} {m : MethodId} {args : Array Value} {below : List Frame} {meth : Method} {c : Code} {K : KT} {A : Nat → Prop} {Q : State → Prop} (C0 : Cx p s m args meth c prog_1_method_49_code "CanoeSides" 8 K A) (hr : meth.sig.returnType = (Option.some Jvm.ClassFile.FieldType.int)) {ad : Nat → Nat} (N : Nat) (x1 : Int32) (x2 : Int32) (x3 : Int32) (x4 : Int32) (x5 : Int32) (x6 : Int32) (y0 : Int32) (h : Hp) {x_ : (Int32 × Int32 × Int32) ⊕ (Int32)} (hE : K_C_offStraight_J34 N x1 x2 x3 x4 x5 x6 y0 h = some x_) (hk1 : ∀ z_, x_ = .inl z_ → G p l e rm_C_offStraight s m args below meth c K A WC 8 0 0 Q 9 [(0, .ref (ad 0)), (1, .int x1), (2, .int x2), (3, .int x3), (4, .int z_.1), (5, .int z_.2.1), (6, .int z_.2.2)] [] ad h) (hk3 : ∀ z_, x_ = .inr z_ → G p l e rm_C_offStraight s m args below meth c K A WC 8 0 0 Q 92 [(5, .int z_)] [] ad h) : G p l e rm_C_offStraight s m args below meth c K A WC 8 0 0 Q 34 [(0, .ref (ad 0)), (1, .int x1), (2, .int x2), (3, .int x3), (4, .int x4), (5, .int x5), (6, .int x6)] [.int y0] ad h := by
  unfold K_C_offStraight_J34 at hE
  refine g_istore C0 [(7, .int y0), (0, .ref (ad 0)), (1, .int x1), (2, .int x2), (3, .int x3), (4, .int x4), (5, .int x5), (6, .int x6)] d_C_offStraight_34 (by decide) rfl ?_
  refine g_iload C0 5 d_C_offStraight_36 rfl ?_
  refine g_aload_n C0 1 d_C_offStraight_38 rfl rfl ?_
  refine g_getr C0 CK_10 5 (by decide) t_457 0 rfl rfl d_C_offStraight_39 ?_
  refine g_iload C0 0 d_C_offStraight_42 rfl ?_
  obtain ⟨v44, z44, hE⟩ := bd_some hE
  refine g_calliP C0 nd_C [20, 21, 22, 15, 16, 17] rfl (sb_Crew_C) (runV C0 (m_Crew_turnOf l K ad h y0 z44) 1 rfl ⟨t_808, t_777, t_778, t_89, t_779⟩ cd_Crew_turnOf (by decide) 8 rfl rfl (sb_Crew_C) nd_Crew rfl rfl (Nat.le_of_ble_eq_true rfl) d_C_offStraight_44) ?_
  refine g_iadd C0 d_C_offStraight_47 ?_
  refine g_bipush C0 (v := 7) d_C_offStraight_48 (by decide) ?_
  refine g_iand C0 d_C_offStraight_50 ?_
  obtain ⟨v51, e51, hE⟩ := nm_some hE
  refine g_top e51 ?_
  refine g_istore C0 [(4, .int v51), (7, .int y0), (0, .ref (ad 0)), (1, .int x1), (2, .int x2), (3, .int x3), (5, .int x5), (6, .int x6)] d_C_offStraight_51 (by decide) rfl ?_
  refine g_iload C0 6 d_C_offStraight_53 rfl ?_
  refine g_aload_n C0 2 d_C_offStraight_55 rfl rfl ?_
  refine g_getr C0 CK_10 5 (by decide) t_457 0 rfl rfl d_C_offStraight_56 ?_
  refine g_iload C0 1 d_C_offStraight_59 rfl ?_
  obtain ⟨v61, z61, hE⟩ := bd_some hE
  refine g_calliP C0 nd_C [20, 21, 22, 15, 16, 17] rfl (sb_Crew_C) (runV C0 (m_Crew_pushOf l K ad h y0 z61) 1 rfl ⟨t_809, t_781, t_782, t_89, t_783⟩ cd_Crew_pushOf (by decide) 8 rfl rfl (sb_Crew_C) nd_Crew rfl rfl (Nat.le_of_ble_eq_true rfl) d_C_offStraight_61) ?_
  refine g_iload_n C0 5 d_C_offStraight_64 rfl rfl ?_
  have hB := ite_some hE
  refine g_if_eq C0 (tgt := 76) d_C_offStraight_65 (by decide) (fun c_ => ?_) (fun c_ => ?_)
  · replace hE := hB.1 c_
    refine g_iload C0 0 d_C_offStraight_76 rfl ?_
    obtain ⟨v78, z78, hE⟩ := bd_some hE
    refine g_calliP C0 nd_C [] rfl (sb_E_C) (runS C0 (m_C_southOf l K ad h v51 z78) 1 ⟨t_927, t_403, t_85, t_404⟩ cd_C_southOf (by decide) (sb_E_C) nd_E rfl rfl (Nat.le_of_ble_eq_true rfl) d_C_offStraight_78) ?_
    refine g_ineg C0 d_C_offStraight_81 ?_
    refine g_sub [2, 3, 4, 5, 0, 7] (L' := [(0, .ref (ad 0)), (1, .int x1), (2, .int x2), (3, .int x3), (4, .int v51), (6, .int x6)]) rfl ?_
    exact w_C_offStraight_J82 C0 hr N x1 x2 x3 v51 x6 x5 v61 (-v78) h hE hk1 hk3
  · replace hE := hB.2 c_
    refine g_iload C0 0 d_C_offStraight_68 rfl ?_
    obtain ⟨v70, z70, hE⟩ := bd_some hE
    refine g_calliP C0 nd_C [] rfl (sb_E_C) (runS C0 (m_C_eastOf l K ad h v51 z70) 1 ⟨t_926, t_398, t_85, t_399⟩ cd_C_eastOf (by decide) (sb_E_C) nd_E rfl rfl (Nat.le_of_ble_eq_true rfl) d_C_offStraight_70) ?_
    refine g_goto C0 (tgt := 82) d_C_offStraight_73 (by decide) ?_
    refine g_sub [2, 3, 4, 5, 0, 7] (L' := [(0, .ref (ad 0)), (1, .int x1), (2, .int x2), (3, .int x3), (4, .int v51), (6, .int x6)]) rfl ?_
    exact w_C_offStraight_J82 C0 hr N x1 x2 x3 v51 x6 x5 v61 v70 h hE hk1 hk3
theorem w_C_offStraight_J33 {p : Program} {l : Launch} {e : Env} {s : State} {m : MethodId} {args : Array Value} {below : List Frame} {meth : Method} {c : Code} {K : KT} {A : Nat → Prop} {Q : State → Prop} (C0 : Cx p s m args meth c prog_1_method_49_code "CanoeSides" 8 K A) (hr : meth.sig.returnType = (Option.some Jvm.ClassFile.FieldType.int)) {ad : Nat → Nat} (N : Nat) (x1 : Int32) (x2 : Int32) (x3 : Int32) (x4 : Int32) (x5 : Int32) (x6 : Int32) (h : Hp) {x_ : (Int32 × Int32 × Int32) ⊕ (Int32)} (hE : K_C_offStraight_J33 N x1 x2 x3 x4 x5 x6 h = some x_) (hk1 : ∀ z_, x_ = .inl z_ → G p l e rm_C_offStraight s m args below meth c K A WC 8 0 0 Q 9 [(0, .ref (ad 0)), (1, .int x1), (2, .int x2), (3, .int x3), (4, .int z_.1), (5, .int z_.2.1), (6, .int z_.2.2)] [] ad h) (hk3 : ∀ z_, x_ = .inr z_ → G p l e rm_C_offStraight s m args below meth c K A WC 8 0 0 Q 92 [(5, .int z_)] [] ad h) : G p l e rm_C_offStraight s m args below meth c K A WC 8 0 0 Q 33 [(0, .ref (ad 0)), (1, .int x1), (2, .int x2), (3, .int x3), (4, .int x4), (5, .int x5), (6, .int x6)] [] ad h := by
  unfold K_C_offStraight_J33 at hE
  refine g_iconst C0 (v := 0) d_C_offStraight_33 (by decide) ?_
  exact w_C_offStraight_J34 C0 hr N x1 x2 x3 x4 x5 x6 0 h hE hk1 hk3
theorem w_C_offStraight_L9 {p : Program} {l : Launch} {e : Env} {s : State} {m : MethodId} {args : Array Value} {below : List Frame} {meth : Method} {c : Code} {K : KT} {A : Nat → Prop} {Q : State → Prop} (C0 : Cx p s m args meth c prog_1_method_49_code "CanoeSides" 8 K A) (hr : meth.sig.returnType = (Option.some Jvm.ClassFile.FieldType.int)) {ad : Nat → Nat} (N : Nat) (x1 : Int32) (x2 : Int32) (x3 : Int32) (x4 : Int32) (x5 : Int32) (x6 : Int32) (h : Hp) {x_ : (Int32 × Int32 × Int32) ⊕ (Int32)} (hE : K_C_offStraight_L9 N x1 x2 x3 x4 x5 x6 h = some x_) (hk1 : ∀ z_, x_ = .inl z_ → G p l e rm_C_offStraight s m args below meth c K A WC 8 0 0 Q 9 [(0, .ref (ad 0)), (1, .int x1), (2, .int x2), (3, .int x3), (4, .int z_.1), (5, .int z_.2.1), (6, .int z_.2.2)] [] ad h) (hk3 : ∀ z_, x_ = .inr z_ → G p l e rm_C_offStraight s m args below meth c K A WC 8 0 0 Q 92 [(5, .int z_)] [] ad h) : G p l e rm_C_offStraight s m args below meth c K A WC 8 0 0 Q 9 [(0, .ref (ad 0)), (1, .int x1), (2, .int x2), (3, .int x3), (4, .int x4), (5, .int x5), (6, .int x6)] [] ad h := by
  unfold K_C_offStraight_L9 at hE
  refine g_iload C0 6 d_C_offStraight_9 rfl ?_
  refine g_iload_n C0 2 d_C_offStraight_11 rfl rfl ?_
  have hB := ite_some hE
  refine g_icmp_ge C0 (tgt := 92) d_C_offStraight_12 (by decide) (fun c_ => ?_) (fun c_ => ?_)
  · replace hE := hB.1 c_
    refine g_sub [5] (L' := [(5, .int x5)]) rfl ?_
    exact hk3 _ (Option.some.inj hE).symm
  · replace hE := hB.2 c_
    refine g_iload_n C0 1 d_C_offStraight_15 rfl rfl ?_
    have hB := ite_some hE
    refine g_if_le C0 (tgt := 33) d_C_offStraight_16 (by decide) (fun c_ => ?_) (fun c_ => ?_)
    · replace hE := hB.1 c_
      exact w_C_offStraight_J33 C0 hr N x1 x2 x3 x4 x5 x6 h hE hk1 hk3
    · replace hE := hB.2 c_
      refine g_iload C0 6 d_C_offStraight_19 rfl ?_
      refine g_iload_n C0 1 d_C_offStraight_21 rfl rfl ?_
      obtain ⟨q22, hE⟩ := dz_some hE
      refine g_idiv C0 d_C_offStraight_22 q22 ?_
      refine g_iconst C0 (v := 2) d_C_offStraight_23 (by decide) ?_
      refine g_irem C0 d_C_offStraight_24 (by decide) ?_
      refine g_iconst C0 (v := 1) d_C_offStraight_25 (by decide) ?_
      have hB := ite_some hE
      refine g_icmp_ne C0 (tgt := 33) d_C_offStraight_26 (by decide) (fun c_ => ?_) (fun c_ => ?_)
      · replace hE := hB.2 c_
        exact w_C_offStraight_J33 C0 hr N x1 x2 x3 x4 x5 x6 h hE hk1 hk3
      · replace hE := hB.1 c_
        refine g_iconst C0 (v := 5) d_C_offStraight_29 (by decide) ?_
        refine g_goto C0 (tgt := 34) d_C_offStraight_30 (by decide) ?_
        exact w_C_offStraight_J34 C0 hr N x1 x2 x3 x4 x5 x6 5 h hE hk1 hk3
theorem w_C_offStraight {p : Program} {l : Launch} {e : Env} {s : State} {m : MethodId} {args : Array Value} {below : List Frame} {meth : Method} {c : Code} {K : KT} {A : Nat → Prop} (C0 : Cx p s m args meth c prog_1_method_49_code "CanoeSides" 8 K A) (hr : meth.sig.returnType = (Option.some Jvm.ClassFile.FieldType.int)) {ad : Nat → Nat} (N : Nat) (a0 : Int32) (b0 : Int32) (c0 : Int32) (h : Hp) {res : Int32} (hE : K_C_offStraight N a0 b0 c0 h = some res) : G p l e rm_C_offStraight s m args below meth c K A WC 8 0 0 (QI s args below K A WC 0 0 ad res h) 0 [(0, .ref (ad 0)), (1, .int a0), (2, .int b0), (3, .int c0)] [] ad h := by
  unfold K_C_offStraight at hE
  refine g_iconst C0 (v := 0) d_C_offStraight_0 (by decide) ?_
  refine g_istore C0 [(4, .int 0), (0, .ref (ad 0)), (1, .int a0), (2, .int b0), (3, .int c0)] d_C_offStraight_1 (by decide) rfl ?_
  refine g_iconst C0 (v := 0) d_C_offStraight_3 (by decide) ?_
  refine g_istore C0 [(5, .int 0), (4, .int 0), (0, .ref (ad 0)), (1, .int a0), (2, .int b0), (3, .int c0)] d_C_offStraight_4 (by decide) rfl ?_
  refine g_iconst C0 (v := 0) d_C_offStraight_6 (by decide) ?_
  refine g_istore C0 [(6, .int 0), (5, .int 0), (4, .int 0), (0, .ref (ad 0)), (1, .int a0), (2, .int b0), (3, .int c0)] d_C_offStraight_7 (by decide) rfl ?_
  refine g_sub [3, 4, 5, 6, 2, 1, 0] (L' := [(0, .ref (ad 0)), (1, .int a0), (2, .int b0), (3, .int c0), (4, .int 0), (5, .int 0), (6, .int 0)]) rfl ?_
  obtain ⟨t9, z9, hE⟩ := bd_some hE
  refine loopG (fun z_ : Int32 × Int32 × Int32 => K_C_offStraight_L9 N a0 b0 c0 z_.1 z_.2.1 z_.2.2 h) (fun z_ : Int32 × Int32 × Int32 => G p l e rm_C_offStraight s m args below meth c K A WC 8 0 0 _ 9 [(0, .ref (ad 0)), (1, .int a0), (2, .int b0), (3, .int c0), (4, .int z_.1), (5, .int z_.2.1), (6, .int z_.2.2)] [] ad h) (fun z_ : Int32 => G p l e rm_C_offStraight s m args below meth c K A WC 8 0 0 _ 92 [(5, .int z_)] [] ad h) (fun z_ x_ hz k1 k2 => w_C_offStraight_L9 C0 hr N a0 b0 c0 z_.1 z_.2.1 z_.2.2 h hz k1 k2) _ _ _ z9 ?_
  try dsimp only
  refine g_iload C0 0 d_C_offStraight_92 rfl ?_
  obtain rfl := Option.some.inj hE
  exact g_iret C0 hr d_C_offStraight_94
theorem m_C_offStraight (l : Launch) (K : KT) (ad : Nat → Nat) (h : Hp) (N : Nat) (a0 : Int32) (b0 : Int32) (c0 : Int32) {res : Int32} (hE : K_C_offStraight N a0 b0 c0 h = some res) : ConI l y_C_offStraight prog_1_method_49_code 8 (Option.some Jvm.ClassFile.FieldType.int) rm_C_offStraight K WC ad h [.ref (ad 0), .int a0, .int b0, .int c0] res h := fun sz =>
  con_start [(0, .ref (ad 0)), (1, .int a0), (2, .int b0), (3, .int c0)] (by decide +kernel) rfl (Nat.le_of_ble_eq_true rfl) (fun p e s m args below meth c C0 hr hnm hsz => w_C_offStraight C0 hr N a0 b0 c0 h hE)
abbrev y_C_off : MethodName := ⟨"CanoeSides", "off", "(III)I"⟩
abbrev rm_C_off : Room := { frames := 2, cells := 0, slots := 0, locals := 48 }
theorem cd_C_off : cwd y_C_off 3 := by decide +kernel
theorem d_C_off_0 : decode prog_1_method_17_code 0 = .ok (.iload_n 1, 1) := by decide +kernel
theorem d_C_off_1 : decode prog_1_method_17_code 1 = .ok (.iconst 1, 1) := by decide +kernel
theorem d_C_off_2 : decode prog_1_method_17_code 2 = .ok (.bipush 99, 2) := by decide +kernel
theorem d_C_off_4 : decode prog_1_method_17_code 4 = .ok (.invokestatic 96, 3) := by decide +kernel
theorem d_C_off_7 : decode prog_1_method_17_code 7 = .ok (.ifCond .ne 22, 3) := by decide +kernel
theorem d_C_off_10 : decode prog_1_method_17_code 10 = .ok (.iload_n 2, 1) := by decide +kernel
theorem d_C_off_11 : decode prog_1_method_17_code 11 = .ok (.iconst 1, 1) := by decide +kernel
theorem d_C_off_12 : decode prog_1_method_17_code 12 = .ok (.bipush 99, 2) := by decide +kernel
theorem d_C_off_14 : decode prog_1_method_17_code 14 = .ok (.invokestatic 96, 3) := by decide +kernel
theorem d_C_off_17 : decode prog_1_method_17_code 17 = .ok (.ifCond .ne 12, 3) := by decide +kernel
theorem d_C_off_20 : decode prog_1_method_17_code 20 = .ok (.iload_n 3, 1) := by decide +kernel
theorem d_C_off_21 : decode prog_1_method_17_code 21 = .ok (.iconst 0, 1) := by decide +kernel
theorem d_C_off_22 : decode prog_1_method_17_code 22 = .ok (.iconst 1, 1) := by decide +kernel
theorem d_C_off_23 : decode prog_1_method_17_code 23 = .ok (.invokestatic 96, 3) := by decide +kernel
theorem d_C_off_26 : decode prog_1_method_17_code 26 = .ok (.ifCond .eq 6, 3) := by decide +kernel
theorem d_C_off_29 : decode prog_1_method_17_code 29 = .ok (.ldc 100, 2) := by decide +kernel
theorem d_C_off_31 : decode prog_1_method_17_code 31 = .ok (.ireturn, 1) := by decide +kernel
theorem d_C_off_32 : decode prog_1_method_17_code 32 = .ok (.aload_n 0, 1) := by decide +kernel
theorem d_C_off_33 : decode prog_1_method_17_code 33 = .ok (.iload_n 1, 1) := by decide +kernel
theorem d_C_off_34 : decode prog_1_method_17_code 34 = .ok (.iload_n 2, 1) := by decide +kernel
theorem d_C_off_35 : decode prog_1_method_17_code 35 = .ok (.iload_n 3, 1) := by decide +kernel
theorem d_C_off_36 : decode prog_1_method_17_code 36 = .ok (.ifCond .ne 7, 3) := by decide +kernel
theorem d_C_off_39 : decode prog_1_method_17_code 39 = .ok (.iconst 1, 1) := by decide +kernel
theorem d_C_off_40 : decode prog_1_method_17_code 40 = .ok (.goto 4, 3) := by decide +kernel
theorem d_C_off_43 : decode prog_1_method_17_code 43 = .ok (.iconst 0, 1) := by decide +kernel
theorem d_C_off_44 : decode prog_1_method_17_code 44 = .ok (.invokevirtual 211, 3) := by decide +kernel
theorem d_C_off_47 : decode prog_1_method_17_code 47 = .ok (.ireturn, 1) := by decide +kernel
theorem w_C_off_J44 {p : Program} {l : Launch} {e : Env} {s : State} {m : MethodId} {args : Array Value} {below : List Frame} {meth : Method} {c : Code} {K : KT} {A : Nat → Prop} (C0 : Cx p s m args meth c prog_1_method_17_code "CanoeSides" 4 K A) (hr : meth.sig.returnType = (Option.some Jvm.ClassFile.FieldType.int)) {ad : Nat → Nat} (N : Nat) (y1 : Int32) (y2 : Int32) (y3 : Int32) (h : Hp) {res : Int32} (hE : K_C_off_J44 N y1 y2 y3 h = some res) : G p l e rm_C_off s m args below meth c K A WC 4 0 0 (QI s args below K A WC 0 0 ad res h) 44 [] [.int y3, .int y2, .int y1, .ref (ad 0)] ad h := by
  unfold K_C_off_J44 at hE
  obtain ⟨v44, z44, hE⟩ := bd_some hE
  refine g_calliP C0 nd_C [0, 2, 10, 11, 12, 15, 16, 17, 20, 21, 22, 25, 26, 27, 30, 33, 35, 36, 40, 41, 42, 43, 45, 46, 47, 48, 49, 55, 56, 60, 61, 62, 63, 64] rfl (sbW_self WC) (runV C0 (m_C_offStraight l K ad h N y1 y2 y3 z44) 3 rfl ⟨t_922, t_924, t_32, t_85, t_925⟩ cd_C_offStraight (by decide) 0 rfl rfl (sbW_self WC) nd_C rfl rfl (Nat.le_of_ble_eq_true rfl) d_C_off_44) ?_
  obtain rfl := Option.some.inj hE
  exact g_iret C0 hr d_C_off_47
theorem w_C_off {p : Program} {l : Launch} {e : Env} {s : State} {m : MethodId} {args : Array Value} {below : List Frame} {meth : Method} {c : Code} {K : KT} {A : Nat → Prop} (C0 : Cx p s m args meth c prog_1_method_17_code "CanoeSides" 4 K A) (hr : meth.sig.returnType = (Option.some Jvm.ClassFile.FieldType.int)) {ad : Nat → Nat} (N : Nat) (a0 : Int32) (b0 : Int32) (c0 : Int32) (h : Hp) {res : Int32} (hE : K_C_off N a0 b0 c0 h = some res) : G p l e rm_C_off s m args below meth c K A WC 4 0 0 (QI s args below K A WC 0 0 ad res h) 0 [(0, .ref (ad 0)), (1, .int a0), (2, .int b0), (3, .int c0)] [] ad h := by
  unfold K_C_off at hE
  refine g_iload_n C0 1 d_C_off_0 rfl rfl ?_
  refine g_iconst C0 (v := 1) d_C_off_1 (by decide) ?_
  refine g_bipush C0 (v := 99) d_C_off_2 (by decide) ?_
  obtain ⟨v4, z4, hE⟩ := bd_some hE
  refine g_calliP C0 nd_C [] rfl (sb_E_C) (runS C0 (m_C_isOutside l K ad h a0 1 99 z4) 3 ⟨t_499, t_500, t_85, t_501⟩ cd_C_isOutside (by decide) (sb_E_C) nd_E rfl rfl (Nat.le_of_ble_eq_true rfl) d_C_off_4) ?_
  have hB := ite_some hE
  refine g_if_ne C0 (tgt := 29) d_C_off_7 (by decide) (fun c_ => ?_) (fun c_ => ?_)
  · replace hE := hB.2 c_
    refine g_ldc C0 (v := (-1000000002)) t_502 d_C_off_29 ?_
    obtain rfl := Option.some.inj hE
    exact g_iret C0 hr d_C_off_31
  · replace hE := hB.1 c_
    refine g_iload_n C0 2 d_C_off_10 rfl rfl ?_
    refine g_iconst C0 (v := 1) d_C_off_11 (by decide) ?_
    refine g_bipush C0 (v := 99) d_C_off_12 (by decide) ?_
    obtain ⟨v14, z14, hE⟩ := bd_some hE
    refine g_calliP C0 nd_C [] rfl (sb_E_C) (runS C0 (m_C_isOutside l K ad h b0 1 99 z14) 3 ⟨t_499, t_500, t_85, t_501⟩ cd_C_isOutside (by decide) (sb_E_C) nd_E rfl rfl (Nat.le_of_ble_eq_true rfl) d_C_off_14) ?_
    have hB := ite_some hE
    refine g_if_ne C0 (tgt := 29) d_C_off_17 (by decide) (fun c_ => ?_) (fun c_ => ?_)
    · replace hE := hB.2 c_
      refine g_ldc C0 (v := (-1000000002)) t_502 d_C_off_29 ?_
      obtain rfl := Option.some.inj hE
      exact g_iret C0 hr d_C_off_31
    · replace hE := hB.1 c_
      refine g_iload_n C0 3 d_C_off_20 rfl rfl ?_
      refine g_iconst C0 (v := 0) d_C_off_21 (by decide) ?_
      refine g_iconst C0 (v := 1) d_C_off_22 (by decide) ?_
      obtain ⟨v23, z23, hE⟩ := bd_some hE
      refine g_calliP C0 nd_C [] rfl (sb_E_C) (runS C0 (m_C_isOutside l K ad h c0 0 1 z23) 3 ⟨t_499, t_500, t_85, t_501⟩ cd_C_isOutside (by decide) (sb_E_C) nd_E rfl rfl (Nat.le_of_ble_eq_true rfl) d_C_off_23) ?_
      have hB := ite_some hE
      refine g_if_eq C0 (tgt := 32) d_C_off_26 (by decide) (fun c_ => ?_) (fun c_ => ?_)
      · replace hE := hB.1 c_
        refine g_aload_n C0 0 d_C_off_32 rfl rfl ?_
        refine g_iload_n C0 1 d_C_off_33 rfl rfl ?_
        refine g_iload_n C0 2 d_C_off_34 rfl rfl ?_
        refine g_iload_n C0 3 d_C_off_35 rfl rfl ?_
        have hB := ite_some hE
        refine g_if_ne C0 (tgt := 43) d_C_off_36 (by decide) (fun c_ => ?_) (fun c_ => ?_)
        · replace hE := hB.2 c_
          refine g_iconst C0 (v := 0) d_C_off_43 (by decide) ?_
          refine g_sub [] (L' := []) rfl ?_
          exact w_C_off_J44 C0 hr N a0 b0 0 h hE
        · replace hE := hB.1 c_
          refine g_iconst C0 (v := 1) d_C_off_39 (by decide) ?_
          refine g_goto C0 (tgt := 44) d_C_off_40 (by decide) ?_
          refine g_sub [] (L' := []) rfl ?_
          exact w_C_off_J44 C0 hr N a0 b0 1 h hE
      · replace hE := hB.2 c_
        refine g_ldc C0 (v := (-1000000002)) t_502 d_C_off_29 ?_
        obtain rfl := Option.some.inj hE
        exact g_iret C0 hr d_C_off_31
theorem m_C_off (l : Launch) (K : KT) (ad : Nat → Nat) (h : Hp) (N : Nat) (a0 : Int32) (b0 : Int32) (c0 : Int32) {res : Int32} (hE : K_C_off N a0 b0 c0 h = some res) : ConI l y_C_off prog_1_method_17_code 4 (Option.some Jvm.ClassFile.FieldType.int) rm_C_off K WC ad h [.ref (ad 0), .int a0, .int b0, .int c0] res h := fun sz =>
  con_start [(0, .ref (ad 0)), (1, .int a0), (2, .int b0), (3, .int c0)] (by decide +kernel) rfl (Nat.le_of_ble_eq_true rfl) (fun p e s m args below meth c C0 hr hnm hsz => w_C_off C0 hr N a0 b0 c0 h hE)
abbrev y_C_best : MethodName := ⟨"CanoeSides", "best", "(I)I"⟩
abbrev rm_C_best : Room := { frames := 2, cells := 0, slots := 0, locals := 48 }
theorem cd_C_best : cwd y_C_best 1 := by decide +kernel
theorem d_C_best_0 : decode prog_1_method_18_code 0 = .ok (.iload_n 1, 1) := by decide +kernel
theorem d_C_best_1 : decode prog_1_method_18_code 1 = .ok (.iconst 1, 1) := by decide +kernel
theorem d_C_best_2 : decode prog_1_method_18_code 2 = .ok (.bipush 99, 2) := by decide +kernel
theorem d_C_best_4 : decode prog_1_method_18_code 4 = .ok (.invokestatic 96, 3) := by decide +kernel
theorem d_C_best_7 : decode prog_1_method_18_code 7 = .ok (.ifCond .eq 6, 3) := by decide +kernel
theorem d_C_best_10 : decode prog_1_method_18_code 10 = .ok (.ldc 100, 2) := by decide +kernel
theorem d_C_best_12 : decode prog_1_method_18_code 12 = .ok (.ireturn, 1) := by decide +kernel
theorem d_C_best_13 : decode prog_1_method_18_code 13 = .ok (.iconst 1, 1) := by decide +kernel
theorem d_C_best_14 : decode prog_1_method_18_code 14 = .ok (.istore_n 2, 1) := by decide +kernel
theorem d_C_best_15 : decode prog_1_method_18_code 15 = .ok (.iconst 2, 1) := by decide +kernel
theorem d_C_best_16 : decode prog_1_method_18_code 16 = .ok (.istore_n 3, 1) := by decide +kernel
theorem d_C_best_17 : decode prog_1_method_18_code 17 = .ok (.iload_n 3, 1) := by decide +kernel
theorem d_C_best_18 : decode prog_1_method_18_code 18 = .ok (.bipush 9, 2) := by decide +kernel
theorem d_C_best_20 : decode prog_1_method_18_code 20 = .ok (.if_icmp .gt 61, 3) := by decide +kernel
theorem d_C_best_23 : decode prog_1_method_18_code 23 = .ok (.aload_n 0, 1) := by decide +kernel
theorem d_C_best_24 : decode prog_1_method_18_code 24 = .ok (.iload_n 3, 1) := by decide +kernel
theorem d_C_best_25 : decode prog_1_method_18_code 25 = .ok (.iload_n 1, 1) := by decide +kernel
theorem d_C_best_26 : decode prog_1_method_18_code 26 = .ok (.iconst 1, 1) := by decide +kernel
theorem d_C_best_27 : decode prog_1_method_18_code 27 = .ok (.invokevirtual 211, 3) := by decide +kernel
theorem d_C_best_30 : decode prog_1_method_18_code 30 = .ok (.invokestatic 215, 3) := by decide +kernel
theorem d_C_best_33 : decode prog_1_method_18_code 33 = .ok (.aload_n 0, 1) := by decide +kernel
theorem d_C_best_34 : decode prog_1_method_18_code 34 = .ok (.iload_n 2, 1) := by decide +kernel
theorem d_C_best_35 : decode prog_1_method_18_code 35 = .ok (.iload_n 1, 1) := by decide +kernel
theorem d_C_best_36 : decode prog_1_method_18_code 36 = .ok (.iconst 1, 1) := by decide +kernel
theorem d_C_best_37 : decode prog_1_method_18_code 37 = .ok (.invokevirtual 211, 3) := by decide +kernel
theorem d_C_best_40 : decode prog_1_method_18_code 40 = .ok (.invokestatic 215, 3) := by decide +kernel
theorem d_C_best_43 : decode prog_1_method_18_code 43 = .ok (.isub, 1) := by decide +kernel
theorem d_C_best_44 : decode prog_1_method_18_code 44 = .ok (.istore 4, 2) := by decide +kernel
theorem d_C_best_46 : decode prog_1_method_18_code 46 = .ok (.iload 4, 2) := by decide +kernel
theorem d_C_best_48 : decode prog_1_method_18_code 48 = .ok (.ifCond .lt 25, 3) := by decide +kernel
theorem d_C_best_51 : decode prog_1_method_18_code 51 = .ok (.iload 4, 2) := by decide +kernel
theorem d_C_best_53 : decode prog_1_method_18_code 53 = .ok (.ifCond .ne 22, 3) := by decide +kernel
theorem d_C_best_56 : decode prog_1_method_18_code 56 = .ok (.aload_n 0, 1) := by decide +kernel
theorem d_C_best_57 : decode prog_1_method_18_code 57 = .ok (.iload_n 3, 1) := by decide +kernel
theorem d_C_best_58 : decode prog_1_method_18_code 58 = .ok (.iload_n 1, 1) := by decide +kernel
theorem d_C_best_59 : decode prog_1_method_18_code 59 = .ok (.iconst 0, 1) := by decide +kernel
theorem d_C_best_60 : decode prog_1_method_18_code 60 = .ok (.invokevirtual 211, 3) := by decide +kernel
theorem d_C_best_63 : decode prog_1_method_18_code 63 = .ok (.aload_n 0, 1) := by decide +kernel
theorem d_C_best_64 : decode prog_1_method_18_code 64 = .ok (.iload_n 2, 1) := by decide +kernel
theorem d_C_best_65 : decode prog_1_method_18_code 65 = .ok (.iload_n 1, 1) := by decide +kernel
theorem d_C_best_66 : decode prog_1_method_18_code 66 = .ok (.iconst 0, 1) := by decide +kernel
theorem d_C_best_67 : decode prog_1_method_18_code 67 = .ok (.invokevirtual 211, 3) := by decide +kernel
theorem d_C_best_70 : decode prog_1_method_18_code 70 = .ok (.if_icmp .le 5, 3) := by decide +kernel
theorem d_C_best_73 : decode prog_1_method_18_code 73 = .ok (.iload_n 3, 1) := by decide +kernel
theorem d_C_best_74 : decode prog_1_method_18_code 74 = .ok (.istore_n 2, 1) := by decide +kernel
theorem d_C_best_75 : decode prog_1_method_18_code 75 = .ok (.iinc 3 1, 3) := by decide +kernel
theorem d_C_best_78 : decode prog_1_method_18_code 78 = .ok (.goto (-61), 3) := by decide +kernel
theorem d_C_best_81 : decode prog_1_method_18_code 81 = .ok (.iload_n 2, 1) := by decide +kernel
theorem d_C_best_82 : decode prog_1_method_18_code 82 = .ok (.ireturn, 1) := by decide +kernel
theorem w_C_best_J73 {p : Program} {l : Launch} {e : Env} {s : State} {m : MethodId} {args : Array Value} {below : List Frame} {meth : Method} {c : Code} {K : KT} {A : Nat → Prop} {Q : State → Prop} (C0 : Cx p s m args meth c prog_1_method_18_code "CanoeSides" 5 K A) (hr : meth.sig.returnType = (Option.some Jvm.ClassFile.FieldType.int)) {ad : Nat → Nat} (N : Nat) (x1 : Int32) (x3 : Int32) (h : Hp) {x_ : (Int32 × Int32) ⊕ (Int32)} (hE : K_C_best_J73 N x1 x3 h = some x_) (hk1 : ∀ z_, x_ = .inl z_ → G p l e rm_C_best s m args below meth c K A WC 5 0 0 Q 17 [(0, .ref (ad 0)), (1, .int x1), (2, .int z_.1), (3, .int z_.2)] [] ad h) (hk3 : ∀ z_, x_ = .inr z_ → G p l e rm_C_best s m args below meth c K A WC 5 0 0 Q 81 [(2, .int z_)] [] ad h) : G p l e rm_C_best s m args below meth c K A WC 5 0 0 Q 73 [(0, .ref (ad 0)), (1, .int x1), (3, .int x3)] [] ad h := by
  unfold K_C_best_J73 at hE
  refine g_iload_n C0 2 d_C_best_73 rfl rfl ?_
  refine g_istore_n C0 [(2, .int x3), (0, .ref (ad 0)), (1, .int x1), (3, .int x3)] d_C_best_74 rfl (by decide) rfl ?_
  obtain ⟨v75, e75, hE⟩ := nm_some hE
  refine g_iinc C0 3 [(3, .int v75), (2, .int x3), (0, .ref (ad 0)), (1, .int x1)] d_C_best_75 rfl (by rw [e75]; rfl) (by decide) rfl ?_
  refine g_goto C0 (tgt := 17) d_C_best_78 (by decide) ?_
  refine g_sub [2, 3, 1, 0] (L' := [(0, .ref (ad 0)), (1, .int x1), (2, .int x3), (3, .int v75)]) rfl ?_
  exact hk1 _ (Option.some.inj hE).symm
theorem w_C_best_L17 {p : Program} {l : Launch} {e : Env} {s : State} {m : MethodId} {args : Array Value} {below : List Frame} {meth : Method} {c : Code} {K : KT} {A : Nat → Prop} {Q : State → Prop} (C0 : Cx p s m args meth c prog_1_method_18_code "CanoeSides" 5 K A) (hr : meth.sig.returnType = (Option.some Jvm.ClassFile.FieldType.int)) {ad : Nat → Nat} (N : Nat) (x1 : Int32) (x2 : Int32) (x3 : Int32) (h : Hp) {x_ : (Int32 × Int32) ⊕ (Int32)} (hE : K_C_best_L17 N x1 x2 x3 h = some x_) (hk1 : ∀ z_, x_ = .inl z_ → G p l e rm_C_best s m args below meth c K A WC 5 0 0 Q 17 [(0, .ref (ad 0)), (1, .int x1), (2, .int z_.1), (3, .int z_.2)] [] ad h) (hk3 : ∀ z_, x_ = .inr z_ → G p l e rm_C_best s m args below meth c K A WC 5 0 0 Q 81 [(2, .int z_)] [] ad h) : G p l e rm_C_best s m args below meth c K A WC 5 0 0 Q 17 [(0, .ref (ad 0)), (1, .int x1), (2, .int x2), (3, .int x3)] [] ad h := by
  unfold K_C_best_L17 at hE
  refine g_iload_n C0 3 d_C_best_17 rfl rfl ?_
  refine g_bipush C0 (v := 9) d_C_best_18 (by decide) ?_
  have hB := ite_some hE
  refine g_icmp_gt C0 (tgt := 81) d_C_best_20 (by decide) (fun c_ => ?_) (fun c_ => ?_)
  · replace hE := hB.1 c_
    refine g_sub [2] (L' := [(2, .int x2)]) rfl ?_
    exact hk3 _ (Option.some.inj hE).symm
  · replace hE := hB.2 c_
    refine g_aload_n C0 0 d_C_best_23 rfl rfl ?_
    refine g_iload_n C0 3 d_C_best_24 rfl rfl ?_
    refine g_iload_n C0 1 d_C_best_25 rfl rfl ?_
    refine g_iconst C0 (v := 1) d_C_best_26 (by decide) ?_
    obtain ⟨v27, z27, hE⟩ := bd_some hE
    refine g_calliP C0 nd_C [0, 2, 10, 11, 12, 15, 16, 17, 20, 21, 22, 25, 26, 27, 30, 33, 35, 36, 40, 41, 42, 43, 45, 46, 47, 48, 49, 55, 56, 60, 61, 62, 63, 64] rfl (sbW_self WC) (runV C0 (m_C_offStraight l K ad h N x3 x1 1 z27) 3 rfl ⟨t_922, t_924, t_32, t_85, t_925⟩ cd_C_offStraight (by decide) 0 rfl rfl (sbW_self WC) nd_C rfl rfl (Nat.le_of_ble_eq_true rfl) d_C_best_27) ?_
    refine g_abs C0 t_932 ⟨Nat.le_of_ble_eq_true rfl, Nat.le_of_ble_eq_true rfl, Nat.zero_le _, Nat.zero_le _⟩ d_C_best_30 ?_
    refine g_aload_n C0 0 d_C_best_33 rfl rfl ?_
    refine g_iload_n C0 2 d_C_best_34 rfl rfl ?_
    refine g_iload_n C0 1 d_C_best_35 rfl rfl ?_
    refine g_iconst C0 (v := 1) d_C_best_36 (by decide) ?_
    obtain ⟨v37, z37, hE⟩ := bd_some hE
    refine g_calliP C0 nd_C [0, 2, 10, 11, 12, 15, 16, 17, 20, 21, 22, 25, 26, 27, 30, 33, 35, 36, 40, 41, 42, 43, 45, 46, 47, 48, 49, 55, 56, 60, 61, 62, 63, 64] rfl (sbW_self WC) (runV C0 (m_C_offStraight l K ad h N x2 x1 1 z37) 3 rfl ⟨t_922, t_924, t_32, t_85, t_925⟩ cd_C_offStraight (by decide) 0 rfl rfl (sbW_self WC) nd_C rfl rfl (Nat.le_of_ble_eq_true rfl) d_C_best_37) ?_
    refine g_abs C0 t_932 ⟨Nat.le_of_ble_eq_true rfl, Nat.le_of_ble_eq_true rfl, Nat.zero_le _, Nat.zero_le _⟩ d_C_best_40 ?_
    refine g_isub C0 d_C_best_43 ?_
    obtain ⟨v44, e44, hE⟩ := nm_some hE
    refine g_top e44 ?_
    refine g_istore C0 [(4, .int v44), (0, .ref (ad 0)), (1, .int x1), (2, .int x2), (3, .int x3)] d_C_best_44 (by decide) rfl ?_
    refine g_iload C0 0 d_C_best_46 rfl ?_
    have hB := ite_some hE
    refine g_if_lt C0 (tgt := 73) d_C_best_48 (by decide) (fun c_ => ?_) (fun c_ => ?_)
    · replace hE := hB.1 c_
      refine g_sub [1, 2, 4] (L' := [(0, .ref (ad 0)), (1, .int x1), (3, .int x3)]) rfl ?_
      exact w_C_best_J73 C0 hr N x1 x3 h hE hk1 hk3
    · replace hE := hB.2 c_
      refine g_iload C0 0 d_C_best_51 rfl ?_
      have hB := ite_some hE
      refine g_if_ne C0 (tgt := 75) d_C_best_53 (by decide) (fun c_ => ?_) (fun c_ => ?_)
      · replace hE := hB.2 c_
        obtain ⟨v75, e75, hE⟩ := nm_some hE
        refine g_iinc C0 4 [(3, .int v75), (4, .int v44), (0, .ref (ad 0)), (1, .int x1), (2, .int x2)] d_C_best_75 rfl (by rw [e75]; rfl) (by decide) rfl ?_
        refine g_goto C0 (tgt := 17) d_C_best_78 (by decide) ?_
        refine g_sub [2, 3, 4, 0] (L' := [(0, .ref (ad 0)), (1, .int x1), (2, .int x2), (3, .int v75)]) rfl ?_
        exact hk1 _ (Option.some.inj hE).symm
      · replace hE := hB.1 c_
        refine g_aload_n C0 1 d_C_best_56 rfl rfl ?_
        refine g_iload_n C0 4 d_C_best_57 rfl rfl ?_
        refine g_iload_n C0 2 d_C_best_58 rfl rfl ?_
        refine g_iconst C0 (v := 0) d_C_best_59 (by decide) ?_
        obtain ⟨v60, z60, hE⟩ := bd_some hE
        refine g_calliP C0 nd_C [0, 2, 10, 11, 12, 15, 16, 17, 20, 21, 22, 25, 26, 27, 30, 33, 35, 36, 40, 41, 42, 43, 45, 46, 47, 48, 49, 55, 56, 60, 61, 62, 63, 64] rfl (sbW_self WC) (runV C0 (m_C_offStraight l K ad h N x3 x1 0 z60) 3 rfl ⟨t_922, t_924, t_32, t_85, t_925⟩ cd_C_offStraight (by decide) 0 rfl rfl (sbW_self WC) nd_C rfl rfl (Nat.le_of_ble_eq_true rfl) d_C_best_60) ?_
        refine g_aload_n C0 1 d_C_best_63 rfl rfl ?_
        refine g_iload_n C0 3 d_C_best_64 rfl rfl ?_
        refine g_iload_n C0 2 d_C_best_65 rfl rfl ?_
        refine g_iconst C0 (v := 0) d_C_best_66 (by decide) ?_
        obtain ⟨v67, z67, hE⟩ := bd_some hE
        refine g_calliP C0 nd_C [0, 2, 10, 11, 12, 15, 16, 17, 20, 21, 22, 25, 26, 27, 30, 33, 35, 36, 40, 41, 42, 43, 45, 46, 47, 48, 49, 55, 56, 60, 61, 62, 63, 64] rfl (sbW_self WC) (runV C0 (m_C_offStraight l K ad h N x2 x1 0 z67) 3 rfl ⟨t_922, t_924, t_32, t_85, t_925⟩ cd_C_offStraight (by decide) 0 rfl rfl (sbW_self WC) nd_C rfl rfl (Nat.le_of_ble_eq_true rfl) d_C_best_67) ?_
        have hB := ite_some hE
        refine g_icmp_le C0 (tgt := 75) d_C_best_70 (by decide) (fun c_ => ?_) (fun c_ => ?_)
        · replace hE := hB.1 c_
          obtain ⟨v75, e75, hE⟩ := nm_some hE
          refine g_iinc C0 4 [(3, .int v75), (4, .int v44), (0, .ref (ad 0)), (1, .int x1), (2, .int x2)] d_C_best_75 rfl (by rw [e75]; rfl) (by decide) rfl ?_
          refine g_goto C0 (tgt := 17) d_C_best_78 (by decide) ?_
          refine g_sub [2, 3, 4, 0] (L' := [(0, .ref (ad 0)), (1, .int x1), (2, .int x2), (3, .int v75)]) rfl ?_
          exact hk1 _ (Option.some.inj hE).symm
        · replace hE := hB.2 c_
          refine g_sub [1, 2, 4] (L' := [(0, .ref (ad 0)), (1, .int x1), (3, .int x3)]) rfl ?_
          exact w_C_best_J73 C0 hr N x1 x3 h hE hk1 hk3
theorem w_C_best {p : Program} {l : Launch} {e : Env} {s : State} {m : MethodId} {args : Array Value} {below : List Frame} {meth : Method} {c : Code} {K : KT} {A : Nat → Prop} (C0 : Cx p s m args meth c prog_1_method_18_code "CanoeSides" 5 K A) (hr : meth.sig.returnType = (Option.some Jvm.ClassFile.FieldType.int)) {ad : Nat → Nat} (N : Nat) (a0 : Int32) (h : Hp) {res : Int32} (hE : K_C_best N a0 h = some res) : G p l e rm_C_best s m args below meth c K A WC 5 0 0 (QI s args below K A WC 0 0 ad res h) 0 [(0, .ref (ad 0)), (1, .int a0)] [] ad h := by
  unfold K_C_best at hE
  refine g_iload_n C0 1 d_C_best_0 rfl rfl ?_
  refine g_iconst C0 (v := 1) d_C_best_1 (by decide) ?_
  refine g_bipush C0 (v := 99) d_C_best_2 (by decide) ?_
  obtain ⟨v4, z4, hE⟩ := bd_some hE
  refine g_calliP C0 nd_C [] rfl (sb_E_C) (runS C0 (m_C_isOutside l K ad h a0 1 99 z4) 3 ⟨t_499, t_500, t_85, t_501⟩ cd_C_isOutside (by decide) (sb_E_C) nd_E rfl rfl (Nat.le_of_ble_eq_true rfl) d_C_best_4) ?_
  have hB := ite_some hE
  refine g_if_eq C0 (tgt := 13) d_C_best_7 (by decide) (fun c_ => ?_) (fun c_ => ?_)
  · replace hE := hB.1 c_
    refine g_iconst C0 (v := 1) d_C_best_13 (by decide) ?_
    refine g_istore_n C0 [(2, .int 1), (0, .ref (ad 0)), (1, .int a0)] d_C_best_14 rfl (by decide) rfl ?_
    refine g_iconst C0 (v := 2) d_C_best_15 (by decide) ?_
    refine g_istore_n C0 [(3, .int 2), (2, .int 1), (0, .ref (ad 0)), (1, .int a0)] d_C_best_16 rfl (by decide) rfl ?_
    refine g_sub [2, 3, 1, 0] (L' := [(0, .ref (ad 0)), (1, .int a0), (2, .int 1), (3, .int 2)]) rfl ?_
    obtain ⟨t17, z17, hE⟩ := bd_some hE
    refine loopG (fun z_ : Int32 × Int32 => K_C_best_L17 N a0 z_.1 z_.2 h) (fun z_ : Int32 × Int32 => G p l e rm_C_best s m args below meth c K A WC 5 0 0 _ 17 [(0, .ref (ad 0)), (1, .int a0), (2, .int z_.1), (3, .int z_.2)] [] ad h) (fun z_ : Int32 => G p l e rm_C_best s m args below meth c K A WC 5 0 0 _ 81 [(2, .int z_)] [] ad h) (fun z_ x_ hz k1 k2 => w_C_best_L17 C0 hr N a0 z_.1 z_.2 h hz k1 k2) _ _ _ z17 ?_
    try dsimp only
    refine g_iload_n C0 0 d_C_best_81 rfl rfl ?_
    obtain rfl := Option.some.inj hE
    exact g_iret C0 hr d_C_best_82
  · replace hE := hB.2 c_
    refine g_ldc C0 (v := (-1000000002)) t_502 d_C_best_10 ?_
    obtain rfl := Option.some.inj hE
    exact g_iret C0 hr d_C_best_12
theorem m_C_best (l : Launch) (K : KT) (ad : Nat → Nat) (h : Hp) (N : Nat) (a0 : Int32) {res : Int32} (hE : K_C_best N a0 h = some res) : ConI l y_C_best prog_1_method_18_code 5 (Option.some Jvm.ClassFile.FieldType.int) rm_C_best K WC ad h [.ref (ad 0), .int a0] res h := fun sz =>
  con_start [(0, .ref (ad 0)), (1, .int a0)] (by decide +kernel) rfl (Nat.le_of_ble_eq_true rfl) (fun p e s m args below meth c C0 hr hnm hsz => w_C_best C0 hr N a0 h hE)
abbrev y_C_pairOfRow : MethodName := ⟨"CanoeSides", "pairOfRow", "(III)I"⟩
abbrev rm_C_pairOfRow : Room := { frames := 0, cells := 0, slots := 0, locals := 0 }
theorem cd_C_pairOfRow : cwd y_C_pairOfRow 3 := by decide +kernel
theorem d_C_pairOfRow_0 : decode prog_1_method_51_code 0 = .ok (.iload_n 0, 1) := by decide +kernel
theorem d_C_pairOfRow_1 : decode prog_1_method_51_code 1 = .ok (.iconst 4, 1) := by decide +kernel
theorem d_C_pairOfRow_2 : decode prog_1_method_51_code 2 = .ok (.iload_n 1, 1) := by decide +kernel
theorem d_C_pairOfRow_3 : decode prog_1_method_51_code 3 = .ok (.iconst 1, 1) := by decide +kernel
theorem d_C_pairOfRow_4 : decode prog_1_method_51_code 4 = .ok (.isub, 1) := by decide +kernel
theorem d_C_pairOfRow_5 : decode prog_1_method_51_code 5 = .ok (.iload_n 2, 1) := by decide +kernel
theorem d_C_pairOfRow_6 : decode prog_1_method_51_code 6 = .ok (.isub, 1) := by decide +kernel
theorem d_C_pairOfRow_7 : decode prog_1_method_51_code 7 = .ok (.imul, 1) := by decide +kernel
theorem d_C_pairOfRow_8 : decode prog_1_method_51_code 8 = .ok (.ishr, 1) := by decide +kernel
theorem d_C_pairOfRow_9 : decode prog_1_method_51_code 9 = .ok (.bipush 15, 2) := by decide +kernel
theorem d_C_pairOfRow_11 : decode prog_1_method_51_code 11 = .ok (.iand, 1) := by decide +kernel
theorem d_C_pairOfRow_12 : decode prog_1_method_51_code 12 = .ok (.ireturn, 1) := by decide +kernel
theorem w_C_pairOfRow {p : Program} {l : Launch} {e : Env} {s : State} {m : MethodId} {args : Array Value} {below : List Frame} {meth : Method} {c : Code} {K : KT} {A : Nat → Prop} (C0 : Cx p s m args meth c prog_1_method_51_code "CanoeSides" 3 K A) (hr : meth.sig.returnType = (Option.some Jvm.ClassFile.FieldType.int)) {ad : Nat → Nat} (a0 : Int32) (b0 : Int32) (c0 : Int32) (h : Hp) {res : Int32} (hE : K_C_pairOfRow a0 b0 c0 = some res) : G p l e rm_C_pairOfRow s m args below meth c K A WE 3 0 0 (QI s args below K A WE 0 0 ad res h) 0 [(0, .int a0), (1, .int b0), (2, .int c0)] [] ad h := by
  unfold K_C_pairOfRow at hE
  refine g_iload_n C0 0 d_C_pairOfRow_0 rfl rfl ?_
  refine g_iconst C0 (v := 4) d_C_pairOfRow_1 (by decide) ?_
  refine g_iload_n C0 1 d_C_pairOfRow_2 rfl rfl ?_
  refine g_iconst C0 (v := 1) d_C_pairOfRow_3 (by decide) ?_
  refine g_isub C0 d_C_pairOfRow_4 ?_
  refine g_iload_n C0 2 d_C_pairOfRow_5 rfl rfl ?_
  refine g_isub C0 d_C_pairOfRow_6 ?_
  refine g_imul C0 d_C_pairOfRow_7 ?_
  refine g_ishr C0 d_C_pairOfRow_8 ?_
  refine g_bipush C0 (v := 15) d_C_pairOfRow_9 (by decide) ?_
  refine g_iand C0 d_C_pairOfRow_11 ?_
  obtain rfl := Option.some.inj hE
  exact g_iret C0 hr d_C_pairOfRow_12
theorem m_C_pairOfRow (l : Launch) (K : KT) (ad : Nat → Nat) (h : Hp) (a0 : Int32) (b0 : Int32) (c0 : Int32) {res : Int32} (hE : K_C_pairOfRow a0 b0 c0 = some res) : ConI l y_C_pairOfRow prog_1_method_51_code 3 (Option.some Jvm.ClassFile.FieldType.int) rm_C_pairOfRow K WE ad h [.int a0, .int b0, .int c0] res h := fun sz =>
  con_start [(0, .int a0), (1, .int b0), (2, .int c0)] (by decide +kernel) rfl (Nat.le_of_ble_eq_true rfl) (fun p e s m args below meth c C0 hr hnm hsz => w_C_pairOfRow C0 hr a0 b0 c0 h hE)
abbrev y_C_stillRow : MethodName := ⟨"CanoeSides", "stillRow", "(I)I"⟩
abbrev rm_C_stillRow : Room := { frames := 3, cells := 0, slots := 0, locals := 73 }
theorem cd_C_stillRow : cwd y_C_stillRow 1 := by decide +kernel
theorem d_C_stillRow_0 : decode prog_1_method_50_code 0 = .ok (.iconst 1, 1) := by decide +kernel
theorem d_C_stillRow_1 : decode prog_1_method_50_code 1 = .ok (.iconst 4, 1) := by decide +kernel
theorem d_C_stillRow_2 : decode prog_1_method_50_code 2 = .ok (.iload_n 1, 1) := by decide +kernel
theorem d_C_stillRow_3 : decode prog_1_method_50_code 3 = .ok (.imul, 1) := by decide +kernel
theorem d_C_stillRow_4 : decode prog_1_method_50_code 4 = .ok (.ishl, 1) := by decide +kernel
theorem d_C_stillRow_5 : decode prog_1_method_50_code 5 = .ok (.istore_n 2, 1) := by decide +kernel
theorem d_C_stillRow_6 : decode prog_1_method_50_code 6 = .ok (.iconst 0, 1) := by decide +kernel
theorem d_C_stillRow_7 : decode prog_1_method_50_code 7 = .ok (.istore_n 3, 1) := by decide +kernel
theorem d_C_stillRow_8 : decode prog_1_method_50_code 8 = .ok (.iload_n 3, 1) := by decide +kernel
theorem d_C_stillRow_9 : decode prog_1_method_50_code 9 = .ok (.iload_n 2, 1) := by decide +kernel
theorem d_C_stillRow_10 : decode prog_1_method_50_code 10 = .ok (.if_icmp .ge 66, 3) := by decide +kernel
theorem d_C_stillRow_13 : decode prog_1_method_50_code 13 = .ok (.aload_n 0, 1) := by decide +kernel
theorem d_C_stillRow_14 : decode prog_1_method_50_code 14 = .ok (.invokevirtual 158, 3) := by decide +kernel
theorem d_C_stillRow_17 : decode prog_1_method_50_code 17 = .ok (.istore 4, 2) := by decide +kernel
theorem d_C_stillRow_19 : decode prog_1_method_50_code 19 = .ok (.iconst 0, 1) := by decide +kernel
theorem d_C_stillRow_20 : decode prog_1_method_50_code 20 = .ok (.istore 5, 2) := by decide +kernel
theorem d_C_stillRow_22 : decode prog_1_method_50_code 22 = .ok (.iload 5, 2) := by decide +kernel
theorem d_C_stillRow_24 : decode prog_1_method_50_code 24 = .ok (.iload_n 1, 1) := by decide +kernel
theorem d_C_stillRow_25 : decode prog_1_method_50_code 25 = .ok (.if_icmp .ge 27, 3) := by decide +kernel
theorem d_C_stillRow_28 : decode prog_1_method_50_code 28 = .ok (.aload_n 0, 1) := by decide +kernel
theorem d_C_stillRow_29 : decode prog_1_method_50_code 29 = .ok (.getfield 39, 3) := by decide +kernel
theorem d_C_stillRow_32 : decode prog_1_method_50_code 32 = .ok (.iload 4, 2) := by decide +kernel
theorem d_C_stillRow_34 : decode prog_1_method_50_code 34 = .ok (.iload_n 3, 1) := by decide +kernel
theorem d_C_stillRow_35 : decode prog_1_method_50_code 35 = .ok (.iload_n 1, 1) := by decide +kernel
theorem d_C_stillRow_36 : decode prog_1_method_50_code 36 = .ok (.iload 5, 2) := by decide +kernel
theorem d_C_stillRow_38 : decode prog_1_method_50_code 38 = .ok (.invokestatic 223, 3) := by decide +kernel
theorem d_C_stillRow_41 : decode prog_1_method_50_code 41 = .ok (.invokevirtual 162, 3) := by decide +kernel
theorem d_C_stillRow_44 : decode prog_1_method_50_code 44 = .ok (.istore 4, 2) := by decide +kernel
theorem d_C_stillRow_46 : decode prog_1_method_50_code 46 = .ok (.iinc 5 1, 3) := by decide +kernel
theorem d_C_stillRow_49 : decode prog_1_method_50_code 49 = .ok (.goto (-27), 3) := by decide +kernel
theorem d_C_stillRow_52 : decode prog_1_method_50_code 52 = .ok (.iload 4, 2) := by decide +kernel
theorem d_C_stillRow_54 : decode prog_1_method_50_code 54 = .ok (.sipush 384, 3) := by decide +kernel
theorem d_C_stillRow_57 : decode prog_1_method_50_code 57 = .ok (.irem, 1) := by decide +kernel
theorem d_C_stillRow_58 : decode prog_1_method_50_code 58 = .ok (.aload_n 0, 1) := by decide +kernel
theorem d_C_stillRow_59 : decode prog_1_method_50_code 59 = .ok (.getfield 49, 3) := by decide +kernel
theorem d_C_stillRow_62 : decode prog_1_method_50_code 62 = .ok (.getfield 152, 3) := by decide +kernel
theorem d_C_stillRow_65 : decode prog_1_method_50_code 65 = .ok (.if_icmp .ne 5, 3) := by decide +kernel
theorem d_C_stillRow_68 : decode prog_1_method_50_code 68 = .ok (.iload_n 3, 1) := by decide +kernel
theorem d_C_stillRow_69 : decode prog_1_method_50_code 69 = .ok (.ireturn, 1) := by decide +kernel
theorem d_C_stillRow_70 : decode prog_1_method_50_code 70 = .ok (.iinc 3 1, 3) := by decide +kernel
theorem d_C_stillRow_73 : decode prog_1_method_50_code 73 = .ok (.goto (-65), 3) := by decide +kernel
theorem d_C_stillRow_76 : decode prog_1_method_50_code 76 = .ok (.iconst (-1), 1) := by decide +kernel
theorem d_C_stillRow_77 : decode prog_1_method_50_code 77 = .ok (.ireturn, 1) := by decide +kernel
theorem w_C_stillRow_L22 {p : Program} {l : Launch} {e : Env} {s : State} {m : MethodId} {args : Array Value} {below : List Frame} {meth : Method} {c : Code} {K : KT} {A : Nat → Prop} {Q : State → Prop} (C0 : Cx p s m args meth c prog_1_method_50_code "CanoeSides" 6 K A) (hr : meth.sig.returnType = (Option.some Jvm.ClassFile.FieldType.int)) {ad : Nat → Nat} (N : Nat) (x1 : Int32) (x2 : Int32) (x3 : Int32) (x4 : Int32) (x5 : Int32) (h : Hp) {x_ : (Int32 × Int32) ⊕ (Int32)} (hE : K_C_stillRow_L22 N x1 x2 x3 x4 x5 h = some x_) (hk1 : ∀ z_, x_ = .inl z_ → G p l e rm_C_stillRow s m args below meth c K A WC 6 0 0 Q 22 [(0, .ref (ad 0)), (1, .int x1), (2, .int x2), (3, .int x3), (4, .int z_.1), (5, .int z_.2)] [] ad h) (hk3 : ∀ z_, x_ = .inr z_ → G p l e rm_C_stillRow s m args below meth c K A WC 6 0 0 Q 52 [(0, .ref (ad 0)), (1, .int x1), (2, .int x2), (3, .int x3), (4, .int z_)] [] ad h) : G p l e rm_C_stillRow s m args below meth c K A WC 6 0 0 Q 22 [(0, .ref (ad 0)), (1, .int x1), (2, .int x2), (3, .int x3), (4, .int x4), (5, .int x5)] [] ad h := by
  unfold K_C_stillRow_L22 at hE
  refine g_iload C0 5 d_C_stillRow_22 rfl ?_
  refine g_iload_n C0 1 d_C_stillRow_24 rfl rfl ?_
  have hB := ite_some hE
  refine g_icmp_ge C0 (tgt := 52) d_C_stillRow_25 (by decide) (fun c_ => ?_) (fun c_ => ?_)
  · replace hE := hB.1 c_
    refine g_sub [0, 1, 2, 3, 4] (L' := [(0, .ref (ad 0)), (1, .int x1), (2, .int x2), (3, .int x3), (4, .int x4)]) rfl ?_
    exact hk3 _ (Option.some.inj hE).symm
  · replace hE := hB.2 c_
    refine g_aload_n C0 0 d_C_stillRow_28 rfl rfl ?_
    refine g_getr C0 CK_10 5 (by decide) t_457 0 rfl rfl d_C_stillRow_29 ?_
    refine g_iload C0 4 d_C_stillRow_32 rfl ?_
    refine g_iload_n C0 3 d_C_stillRow_34 rfl rfl ?_
    refine g_iload_n C0 1 d_C_stillRow_35 rfl rfl ?_
    refine g_iload C0 5 d_C_stillRow_36 rfl ?_
    obtain ⟨v38, z38, hE⟩ := bd_some hE
    refine g_calliP C0 nd_C [] rfl (sb_E_C) (runS C0 (m_C_pairOfRow l K ad h x3 x1 x5 z38) 3 ⟨t_941, t_942, t_85, t_943⟩ cd_C_pairOfRow (by decide) (sb_E_C) nd_E rfl rfl (Nat.le_of_ble_eq_true rfl) d_C_stillRow_38) ?_
    obtain ⟨v41, z41, hE⟩ := bd_some hE
    refine g_calliP C0 nd_C [20, 21, 22, 15, 16, 17] rfl (sb_Crew_C) (runV C0 (m_Crew_after l K ad h x4 v38 z41) 2 rfl ⟨t_772, t_773, t_774, t_89, t_775⟩ cd_Crew_after (by decide) 8 rfl rfl (sb_Crew_C) nd_Crew rfl rfl (Nat.le_of_ble_eq_true rfl) d_C_stillRow_41) ?_
    refine g_istore C0 [(4, .int v41), (0, .ref (ad 0)), (1, .int x1), (2, .int x2), (3, .int x3), (5, .int x5)] d_C_stillRow_44 (by decide) rfl ?_
    obtain ⟨v46, e46, hE⟩ := nm_some hE
    refine g_iinc C0 5 [(5, .int v46), (4, .int v41), (0, .ref (ad 0)), (1, .int x1), (2, .int x2), (3, .int x3)] d_C_stillRow_46 rfl (by rw [e46]; rfl) (by decide) rfl ?_
    refine g_goto C0 (tgt := 22) d_C_stillRow_49 (by decide) ?_
    refine g_sub [2, 3, 4, 5, 1, 0] (L' := [(0, .ref (ad 0)), (1, .int x1), (2, .int x2), (3, .int x3), (4, .int v41), (5, .int v46)]) rfl ?_
    exact hk1 _ (Option.some.inj hE).symm
theorem w_C_stillRow_L8 {p : Program} {l : Launch} {e : Env} {s : State} {m : MethodId} {args : Array Value} {below : List Frame} {meth : Method} {c : Code} {K : KT} {A : Nat → Prop} {Q : State → Prop} (C0 : Cx p s m args meth c prog_1_method_50_code "CanoeSides" 6 K A) (hr : meth.sig.returnType = (Option.some Jvm.ClassFile.FieldType.int)) {ad : Nat → Nat} (N : Nat) (x1 : Int32) (x2 : Int32) (x3 : Int32) (h : Hp) {x_ : (Int32) ⊕ (Int32) ⊕ (Unit)} (hE : K_C_stillRow_L8 N x1 x2 x3 h = some x_) (hk1 : ∀ z_, x_ = .inl z_ → G p l e rm_C_stillRow s m args below meth c K A WC 6 0 0 Q 8 [(0, .ref (ad 0)), (1, .int x1), (2, .int x2), (3, .int z_)] [] ad h) (hk2 : ∀ r_, x_ = .inr (.inl r_) → Q = (QI s args below K A WC 0 0 ad r_ h)) (hk3 : ∀ z_, x_ = .inr (.inr z_) → G p l e rm_C_stillRow s m args below meth c K A WC 6 0 0 Q 76 [] [] ad h) : G p l e rm_C_stillRow s m args below meth c K A WC 6 0 0 Q 8 [(0, .ref (ad 0)), (1, .int x1), (2, .int x2), (3, .int x3)] [] ad h := by
  unfold K_C_stillRow_L8 at hE
  refine g_iload_n C0 3 d_C_stillRow_8 rfl rfl ?_
  refine g_iload_n C0 2 d_C_stillRow_9 rfl rfl ?_
  have hB := ite_some hE
  refine g_icmp_ge C0 (tgt := 76) d_C_stillRow_10 (by decide) (fun c_ => ?_) (fun c_ => ?_)
  · replace hE := hB.1 c_
    refine g_sub [] (L' := []) rfl ?_
    exact hk3 _ (Option.some.inj hE).symm
  · replace hE := hB.2 c_
    refine g_aload_n C0 0 d_C_stillRow_13 rfl rfl ?_
    obtain ⟨v14, z14, hE⟩ := bd_some hE
    refine g_calliP C0 nd_C [0, 2, 10, 11, 12, 15, 16, 17, 20, 21, 22, 25, 26, 27, 30, 33, 35, 36, 40, 41, 42, 43, 45, 46, 47, 48, 49, 55, 56, 60, 61, 62, 63, 64] rfl (sbW_self WC) (runV C0 (m_C_moment l K ad h z14) 0 rfl ⟨t_764, t_766, t_20, t_85, t_767⟩ cd_C_moment (by decide) 0 rfl rfl (sbW_self WC) nd_C rfl rfl (Nat.le_of_ble_eq_true rfl) d_C_stillRow_14) ?_
    refine g_istore C0 [(4, .int v14), (0, .ref (ad 0)), (1, .int x1), (2, .int x2), (3, .int x3)] d_C_stillRow_17 (by decide) rfl ?_
    refine g_iconst C0 (v := 0) d_C_stillRow_19 (by decide) ?_
    refine g_istore C0 [(5, .int 0), (4, .int v14), (0, .ref (ad 0)), (1, .int x1), (2, .int x2), (3, .int x3)] d_C_stillRow_20 (by decide) rfl ?_
    refine g_sub [2, 3, 4, 5, 1, 0] (L' := [(0, .ref (ad 0)), (1, .int x1), (2, .int x2), (3, .int x3), (4, .int v14), (5, .int 0)]) rfl ?_
    obtain ⟨t22, z22, hE⟩ := bd_some hE
    refine loopG (fun z_ : Int32 × Int32 => K_C_stillRow_L22 N x1 x2 x3 z_.1 z_.2 h) (fun z_ : Int32 × Int32 => G p l e rm_C_stillRow s m args below meth c K A WC 6 0 0 _ 22 [(0, .ref (ad 0)), (1, .int x1), (2, .int x2), (3, .int x3), (4, .int z_.1), (5, .int z_.2)] [] ad h) (fun z_ : Int32 => G p l e rm_C_stillRow s m args below meth c K A WC 6 0 0 _ 52 [(0, .ref (ad 0)), (1, .int x1), (2, .int x2), (3, .int x3), (4, .int z_)] [] ad h) (fun z_ x_ hz k1 k2 => w_C_stillRow_L22 C0 hr N x1 x2 x3 z_.1 z_.2 h hz k1 k2) _ _ _ z22 ?_
    try dsimp only
    refine g_iload C0 4 d_C_stillRow_52 rfl ?_
    refine g_sipush C0 (v := 384) d_C_stillRow_54 (by decide) ?_
    refine g_irem C0 d_C_stillRow_57 (by decide) ?_
    refine g_aload_n C0 0 d_C_stillRow_58 rfl rfl ?_
    refine g_getr C0 CK_10 7 (by decide) t_459 0 rfl rfl d_C_stillRow_59 ?_
    refine g_getiN C0 CK_0 0 (by decide) t_235 14 rfl rfl d_C_stillRow_62 ?_
    have hB := ite_some hE
    refine g_icmp_ne C0 (tgt := 70) d_C_stillRow_65 (by decide) (fun c_ => ?_) (fun c_ => ?_)
    · replace hE := hB.2 c_
      obtain ⟨v70, e70, hE⟩ := nm_some hE
      refine g_iinc C0 3 [(3, .int v70), (0, .ref (ad 0)), (1, .int x1), (2, .int x2), (4, .int t22)] d_C_stillRow_70 rfl (by rw [e70]; rfl) (by decide) rfl ?_
      refine g_goto C0 (tgt := 8) d_C_stillRow_73 (by decide) ?_
      refine g_sub [1, 2, 3, 0] (L' := [(0, .ref (ad 0)), (1, .int x1), (2, .int x2), (3, .int v70)]) rfl ?_
      exact hk1 _ (Option.some.inj hE).symm
    · replace hE := hB.1 c_
      refine g_iload_n C0 3 d_C_stillRow_68 rfl rfl ?_
      have hq := hk2 _ (Option.some.inj hE).symm
      rw [hq]
      exact g_iret C0 hr d_C_stillRow_69
theorem w_C_stillRow {p : Program} {l : Launch} {e : Env} {s : State} {m : MethodId} {args : Array Value} {below : List Frame} {meth : Method} {c : Code} {K : KT} {A : Nat → Prop} (C0 : Cx p s m args meth c prog_1_method_50_code "CanoeSides" 6 K A) (hr : meth.sig.returnType = (Option.some Jvm.ClassFile.FieldType.int)) {ad : Nat → Nat} (N : Nat) (a0 : Int32) (h : Hp) {res : Int32} (hE : K_C_stillRow N a0 h = some res) : G p l e rm_C_stillRow s m args below meth c K A WC 6 0 0 (QI s args below K A WC 0 0 ad res h) 0 [(0, .ref (ad 0)), (1, .int a0)] [] ad h := by
  unfold K_C_stillRow at hE
  refine g_iconst C0 (v := 1) d_C_stillRow_0 (by decide) ?_
  refine g_iconst C0 (v := 4) d_C_stillRow_1 (by decide) ?_
  refine g_iload_n C0 1 d_C_stillRow_2 rfl rfl ?_
  refine g_imul C0 d_C_stillRow_3 ?_
  refine g_ishl C0 d_C_stillRow_4 ?_
  obtain ⟨v5, e5, hE⟩ := nm_some hE
  refine g_top e5 ?_
  refine g_istore_n C0 [(2, .int v5), (0, .ref (ad 0)), (1, .int a0)] d_C_stillRow_5 rfl (by decide) rfl ?_
  refine g_iconst C0 (v := 0) d_C_stillRow_6 (by decide) ?_
  refine g_istore_n C0 [(3, .int 0), (2, .int v5), (0, .ref (ad 0)), (1, .int a0)] d_C_stillRow_7 rfl (by decide) rfl ?_
  refine g_sub [2, 3, 1, 0] (L' := [(0, .ref (ad 0)), (1, .int a0), (2, .int v5), (3, .int 0)]) rfl ?_
  obtain ⟨t8, z8, hE⟩ := bd_some hE
  refine loopG (fun z_ : Int32 => K_C_stillRow_L8 N a0 v5 z_ h) (fun z_ : Int32 => G p l e rm_C_stillRow s m args below meth c K A WC 6 0 0 _ 8 [(0, .ref (ad 0)), (1, .int a0), (2, .int v5), (3, .int z_)] [] ad h) (fun z_ : (Int32) ⊕ (Unit) => (∀ r_, z_ = .inl r_ → _ = (QI s args below K A WC 0 0 ad r_ h)) ∧ (∀ y_, z_ = .inr y_ → G p l e rm_C_stillRow s m args below meth c K A WC 6 0 0 _ 76 [] [] ad h)) (fun z_ x_ hz k1 k2 => w_C_stillRow_L8 C0 hr N a0 v5 z_ h hz k1 (fun r_ hr_ => (k2 _ hr_).1 _ rfl) (fun y_ hy_ => (k2 _ hy_).2 _ rfl)) _ _ _ z8 ?_
  refine ⟨fun r_ e_ => ?_, fun t8x e_ => ?_⟩
  · subst e_
    replace hE := el_inl hE
    exact Option.some.inj hE ▸ rfl
  · subst e_
    replace hE := el_inr hE
    try dsimp only
    refine g_iconst C0 (v := (-1)) d_C_stillRow_76 (by decide) ?_
    obtain rfl := Option.some.inj hE
    exact g_iret C0 hr d_C_stillRow_77
theorem m_C_stillRow (l : Launch) (K : KT) (ad : Nat → Nat) (h : Hp) (N : Nat) (a0 : Int32) {res : Int32} (hE : K_C_stillRow N a0 h = some res) : ConI l y_C_stillRow prog_1_method_50_code 6 (Option.some Jvm.ClassFile.FieldType.int) rm_C_stillRow K WC ad h [.ref (ad 0), .int a0] res h := fun sz =>
  con_start [(0, .ref (ad 0)), (1, .int a0)] (by decide +kernel) rfl (Nat.le_of_ble_eq_true rfl) (fun p e s m args below meth c C0 hr hnm hsz => w_C_stillRow C0 hr N a0 h hE)
abbrev y_C_still : MethodName := ⟨"CanoeSides", "still", "(I)I"⟩
abbrev rm_C_still : Room := { frames := 4, cells := 0, slots := 0, locals := 98 }
theorem cd_C_still : cwd y_C_still 1 := by decide +kernel
theorem d_C_still_0 : decode prog_1_method_19_code 0 = .ok (.aload_n 0, 1) := by decide +kernel
theorem d_C_still_1 : decode prog_1_method_19_code 1 = .ok (.invokevirtual 143, 3) := by decide +kernel
theorem d_C_still_4 : decode prog_1_method_19_code 4 = .ok (.ifCond .eq 6, 3) := by decide +kernel
theorem d_C_still_7 : decode prog_1_method_19_code 7 = .ok (.ldc 147, 2) := by decide +kernel
theorem d_C_still_9 : decode prog_1_method_19_code 9 = .ok (.ireturn, 1) := by decide +kernel
theorem d_C_still_10 : decode prog_1_method_19_code 10 = .ok (.iconst 1, 1) := by decide +kernel
theorem d_C_still_11 : decode prog_1_method_19_code 11 = .ok (.istore_n 2, 1) := by decide +kernel
theorem d_C_still_12 : decode prog_1_method_19_code 12 = .ok (.iload_n 2, 1) := by decide +kernel
theorem d_C_still_13 : decode prog_1_method_19_code 13 = .ok (.iconst 3, 1) := by decide +kernel
theorem d_C_still_14 : decode prog_1_method_19_code 14 = .ok (.if_icmp .gt 49, 3) := by decide +kernel
theorem d_C_still_17 : decode prog_1_method_19_code 17 = .ok (.aload_n 0, 1) := by decide +kernel
theorem d_C_still_18 : decode prog_1_method_19_code 18 = .ok (.iload_n 2, 1) := by decide +kernel
theorem d_C_still_19 : decode prog_1_method_19_code 19 = .ok (.invokevirtual 220, 3) := by decide +kernel
theorem d_C_still_22 : decode prog_1_method_19_code 22 = .ok (.istore_n 3, 1) := by decide +kernel
theorem d_C_still_23 : decode prog_1_method_19_code 23 = .ok (.iload_n 3, 1) := by decide +kernel
theorem d_C_still_24 : decode prog_1_method_19_code 24 = .ok (.iconst (-1), 1) := by decide +kernel
theorem d_C_still_25 : decode prog_1_method_19_code 25 = .ok (.if_icmp .eq 32, 3) := by decide +kernel
theorem d_C_still_28 : decode prog_1_method_19_code 28 = .ok (.iload_n 1, 1) := by decide +kernel
theorem d_C_still_29 : decode prog_1_method_19_code 29 = .ok (.iconst (-1), 1) := by decide +kernel
theorem d_C_still_30 : decode prog_1_method_19_code 30 = .ok (.if_icmp .ne 7, 3) := by decide +kernel
theorem d_C_still_33 : decode prog_1_method_19_code 33 = .ok (.iload_n 2, 1) := by decide +kernel
theorem d_C_still_34 : decode prog_1_method_19_code 34 = .ok (.goto 22, 3) := by decide +kernel
theorem d_C_still_37 : decode prog_1_method_19_code 37 = .ok (.iload_n 1, 1) := by decide +kernel
theorem d_C_still_38 : decode prog_1_method_19_code 38 = .ok (.ifCond .lt 8, 3) := by decide +kernel
theorem d_C_still_41 : decode prog_1_method_19_code 41 = .ok (.iload_n 1, 1) := by decide +kernel
theorem d_C_still_42 : decode prog_1_method_19_code 42 = .ok (.iload_n 2, 1) := by decide +kernel
theorem d_C_still_43 : decode prog_1_method_19_code 43 = .ok (.if_icmp .lt 7, 3) := by decide +kernel
theorem d_C_still_46 : decode prog_1_method_19_code 46 = .ok (.iconst (-1), 1) := by decide +kernel
theorem d_C_still_47 : decode prog_1_method_19_code 47 = .ok (.goto 9, 3) := by decide +kernel
theorem d_C_still_50 : decode prog_1_method_19_code 50 = .ok (.iload_n 3, 1) := by decide +kernel
theorem d_C_still_51 : decode prog_1_method_19_code 51 = .ok (.iload_n 2, 1) := by decide +kernel
theorem d_C_still_52 : decode prog_1_method_19_code 52 = .ok (.iload_n 1, 1) := by decide +kernel
theorem d_C_still_53 : decode prog_1_method_19_code 53 = .ok (.invokestatic 223, 3) := by decide +kernel
theorem d_C_still_56 : decode prog_1_method_19_code 56 = .ok (.ireturn, 1) := by decide +kernel
theorem d_C_still_57 : decode prog_1_method_19_code 57 = .ok (.iinc 2 1, 3) := by decide +kernel
theorem d_C_still_60 : decode prog_1_method_19_code 60 = .ok (.goto (-48), 3) := by decide +kernel
theorem d_C_still_63 : decode prog_1_method_19_code 63 = .ok (.iconst (-1), 1) := by decide +kernel
theorem d_C_still_64 : decode prog_1_method_19_code 64 = .ok (.ireturn, 1) := by decide +kernel
theorem w_C_still_J46 {p : Program} {l : Launch} {e : Env} {s : State} {m : MethodId} {args : Array Value} {below : List Frame} {meth : Method} {c : Code} {K : KT} {A : Nat → Prop} {Q : State → Prop} (C0 : Cx p s m args meth c prog_1_method_19_code "CanoeSides" 4 K A) (hr : meth.sig.returnType = (Option.some Jvm.ClassFile.FieldType.int)) {ad : Nat → Nat} (N : Nat) (h : Hp) {x1 : Int32} {x_ : (Int32) ⊕ (Int32) ⊕ (Unit)} (hE : K_C_still_J46 N h = some x_) (hk1 : ∀ z_, x_ = .inl z_ → G p l e rm_C_still s m args below meth c K A WC 4 0 0 Q 12 [(0, .ref (ad 0)), (1, .int x1), (2, .int z_)] [] ad h) (hk2 : ∀ r_, x_ = .inr (.inl r_) → Q = (QI s args below K A WC 0 0 ad r_ h)) (hk3 : ∀ z_, x_ = .inr (.inr z_) → G p l e rm_C_still s m args below meth c K A WC 4 0 0 Q 63 [] [] ad h) : G p l e rm_C_still s m args below meth c K A WC 4 0 0 Q 46 [] [] ad h := by
  unfold K_C_still_J46 at hE
  refine g_iconst C0 (v := (-1)) d_C_still_46 (by decide) ?_
  refine g_goto C0 (tgt := 56) d_C_still_47 (by decide) ?_
  have hq := hk2 _ (Option.some.inj hE).symm
  rw [hq]
  exact g_iret C0 hr d_C_still_56
theorem w_C_still_L12 {p : Program} {l : Launch} {e : Env} {s : State} {m : MethodId} {args : Array Value} {below : List Frame} {meth : Method} {c : Code} {K : KT} {A : Nat → Prop} {Q : State → Prop} (C0 : Cx p s m args meth c prog_1_method_19_code "CanoeSides" 4 K A) (hr : meth.sig.returnType = (Option.some Jvm.ClassFile.FieldType.int)) {ad : Nat → Nat} (N : Nat) (x1 : Int32) (x2 : Int32) (h : Hp) {x_ : (Int32) ⊕ (Int32) ⊕ (Unit)} (hE : K_C_still_L12 N x1 x2 h = some x_) (hk1 : ∀ z_, x_ = .inl z_ → G p l e rm_C_still s m args below meth c K A WC 4 0 0 Q 12 [(0, .ref (ad 0)), (1, .int x1), (2, .int z_)] [] ad h) (hk2 : ∀ r_, x_ = .inr (.inl r_) → Q = (QI s args below K A WC 0 0 ad r_ h)) (hk3 : ∀ z_, x_ = .inr (.inr z_) → G p l e rm_C_still s m args below meth c K A WC 4 0 0 Q 63 [] [] ad h) : G p l e rm_C_still s m args below meth c K A WC 4 0 0 Q 12 [(0, .ref (ad 0)), (1, .int x1), (2, .int x2)] [] ad h := by
  unfold K_C_still_L12 at hE
  refine g_iload_n C0 2 d_C_still_12 rfl rfl ?_
  refine g_iconst C0 (v := 3) d_C_still_13 (by decide) ?_
  have hB := ite_some hE
  refine g_icmp_gt C0 (tgt := 63) d_C_still_14 (by decide) (fun c_ => ?_) (fun c_ => ?_)
  · replace hE := hB.1 c_
    refine g_sub [] (L' := []) rfl ?_
    exact hk3 _ (Option.some.inj hE).symm
  · replace hE := hB.2 c_
    refine g_aload_n C0 0 d_C_still_17 rfl rfl ?_
    refine g_iload_n C0 2 d_C_still_18 rfl rfl ?_
    obtain ⟨v19, z19, hE⟩ := bd_some hE
    refine g_calliP C0 nd_C [0, 2, 10, 11, 12, 15, 16, 17, 20, 21, 22, 25, 26, 27, 30, 33, 35, 36, 40, 41, 42, 43, 45, 46, 47, 48, 49, 55, 56, 60, 61, 62, 63, 64] rfl (sbW_self WC) (runV C0 (m_C_stillRow l K ad h N x2 z19) 1 rfl ⟨t_937, t_939, t_33, t_85, t_940⟩ cd_C_stillRow (by decide) 0 rfl rfl (sbW_self WC) nd_C rfl rfl (Nat.le_of_ble_eq_true rfl) d_C_still_19) ?_
    refine g_istore_n C0 [(3, .int v19), (0, .ref (ad 0)), (1, .int x1), (2, .int x2)] d_C_still_22 rfl (by decide) rfl ?_
    refine g_iload_n C0 0 d_C_still_23 rfl rfl ?_
    refine g_iconst C0 (v := (-1)) d_C_still_24 (by decide) ?_
    have hB := ite_some hE
    refine g_icmp_eq C0 (tgt := 57) d_C_still_25 (by decide) (fun c_ => ?_) (fun c_ => ?_)
    · replace hE := hB.1 c_
      obtain ⟨v57, e57, hE⟩ := nm_some hE
      refine g_iinc C0 3 [(2, .int v57), (3, .int v19), (0, .ref (ad 0)), (1, .int x1)] d_C_still_57 rfl (by rw [e57]; rfl) (by decide) rfl ?_
      refine g_goto C0 (tgt := 12) d_C_still_60 (by decide) ?_
      refine g_sub [2, 3, 0] (L' := [(0, .ref (ad 0)), (1, .int x1), (2, .int v57)]) rfl ?_
      exact hk1 _ (Option.some.inj hE).symm
    · replace hE := hB.2 c_
      refine g_iload_n C0 2 d_C_still_28 rfl rfl ?_
      refine g_iconst C0 (v := (-1)) d_C_still_29 (by decide) ?_
      have hB := ite_some hE
      refine g_icmp_ne C0 (tgt := 37) d_C_still_30 (by decide) (fun c_ => ?_) (fun c_ => ?_)
      · replace hE := hB.2 c_
        refine g_iload_n C0 2 d_C_still_37 rfl rfl ?_
        have hB := ite_some hE
        refine g_if_lt C0 (tgt := 46) d_C_still_38 (by decide) (fun c_ => ?_) (fun c_ => ?_)
        · replace hE := hB.1 c_
          refine g_sub [] (L' := []) rfl ?_
          exact w_C_still_J46 C0 hr N h hE hk1 hk2 hk3
        · replace hE := hB.2 c_
          refine g_iload_n C0 2 d_C_still_41 rfl rfl ?_
          refine g_iload_n C0 3 d_C_still_42 rfl rfl ?_
          have hB := ite_some hE
          refine g_icmp_lt C0 (tgt := 50) d_C_still_43 (by decide) (fun c_ => ?_) (fun c_ => ?_)
          · replace hE := hB.1 c_
            refine g_iload_n C0 0 d_C_still_50 rfl rfl ?_
            refine g_iload_n C0 3 d_C_still_51 rfl rfl ?_
            refine g_iload_n C0 2 d_C_still_52 rfl rfl ?_
            obtain ⟨v53, z53, hE⟩ := bd_some hE
            refine g_calliP C0 nd_C [] rfl (sb_E_C) (runS C0 (m_C_pairOfRow l K ad h v19 x2 x1 z53) 3 ⟨t_941, t_942, t_85, t_943⟩ cd_C_pairOfRow (by decide) (sb_E_C) nd_E rfl rfl (Nat.le_of_ble_eq_true rfl) d_C_still_53) ?_
            have hq := hk2 _ (Option.some.inj hE).symm
            rw [hq]
            exact g_iret C0 hr d_C_still_56
          · replace hE := hB.2 c_
            refine g_sub [] (L' := []) rfl ?_
            exact w_C_still_J46 C0 hr N h hE hk1 hk2 hk3
      · replace hE := hB.1 c_
        refine g_iload_n C0 3 d_C_still_33 rfl rfl ?_
        refine g_goto C0 (tgt := 56) d_C_still_34 (by decide) ?_
        have hq := hk2 _ (Option.some.inj hE).symm
        rw [hq]
        exact g_iret C0 hr d_C_still_56
theorem w_C_still {p : Program} {l : Launch} {e : Env} {s : State} {m : MethodId} {args : Array Value} {below : List Frame} {meth : Method} {c : Code} {K : KT} {A : Nat → Prop} (C0 : Cx p s m args meth c prog_1_method_19_code "CanoeSides" 4 K A) (hr : meth.sig.returnType = (Option.some Jvm.ClassFile.FieldType.int)) {ad : Nat → Nat} (N : Nat) (a0 : Int32) (h : Hp) {res : Int32} (hE : K_C_still N a0 h = some res) : G p l e rm_C_still s m args below meth c K A WC 4 0 0 (QI s args below K A WC 0 0 ad res h) 0 [(0, .ref (ad 0)), (1, .int a0)] [] ad h := by
  unfold K_C_still at hE
  refine g_aload_n C0 0 d_C_still_0 rfl rfl ?_
  obtain ⟨v1, z1, hE⟩ := bd_some hE
  refine g_calliP C0 nd_C [0, 2, 10, 11, 12, 15, 16, 17, 20, 21, 22, 25, 26, 27, 30, 33, 35, 36, 40, 41, 42, 43, 45, 46, 47, 48, 49, 55, 56, 60, 61, 62, 63, 64] rfl (sbW_self WC) (runV C0 (m_C_noSquares l K ad h z1) 0 rfl ⟨t_755, t_757, t_18, t_85, t_758⟩ cd_C_noSquares (by decide) 0 rfl rfl (sbW_self WC) nd_C rfl rfl (Nat.le_of_ble_eq_true rfl) d_C_still_1) ?_
  have hB := ite_some hE
  refine g_if_eq C0 (tgt := 10) d_C_still_4 (by decide) (fun c_ => ?_) (fun c_ => ?_)
  · replace hE := hB.1 c_
    refine g_iconst C0 (v := 1) d_C_still_10 (by decide) ?_
    refine g_istore_n C0 [(2, .int 1), (0, .ref (ad 0)), (1, .int a0)] d_C_still_11 rfl (by decide) rfl ?_
    refine g_sub [1, 2, 0] (L' := [(0, .ref (ad 0)), (1, .int a0), (2, .int 1)]) rfl ?_
    obtain ⟨t12, z12, hE⟩ := bd_some hE
    refine loopG (fun z_ : Int32 => K_C_still_L12 N a0 z_ h) (fun z_ : Int32 => G p l e rm_C_still s m args below meth c K A WC 4 0 0 _ 12 [(0, .ref (ad 0)), (1, .int a0), (2, .int z_)] [] ad h) (fun z_ : (Int32) ⊕ (Unit) => (∀ r_, z_ = .inl r_ → _ = (QI s args below K A WC 0 0 ad r_ h)) ∧ (∀ y_, z_ = .inr y_ → G p l e rm_C_still s m args below meth c K A WC 4 0 0 _ 63 [] [] ad h)) (fun z_ x_ hz k1 k2 => w_C_still_L12 C0 hr N a0 z_ h hz k1 (fun r_ hr_ => (k2 _ hr_).1 _ rfl) (fun y_ hy_ => (k2 _ hy_).2 _ rfl)) _ _ _ z12 ?_
    refine ⟨fun r_ e_ => ?_, fun t12x e_ => ?_⟩
    · subst e_
      replace hE := el_inl hE
      exact Option.some.inj hE ▸ rfl
    · subst e_
      replace hE := el_inr hE
      try dsimp only
      refine g_iconst C0 (v := (-1)) d_C_still_63 (by decide) ?_
      obtain rfl := Option.some.inj hE
      exact g_iret C0 hr d_C_still_64
  · replace hE := hB.2 c_
    refine g_ldc C0 (v := (-1000000003)) t_759 d_C_still_7 ?_
    obtain rfl := Option.some.inj hE
    exact g_iret C0 hr d_C_still_9
theorem m_C_still (l : Launch) (K : KT) (ad : Nat → Nat) (h : Hp) (N : Nat) (a0 : Int32) {res : Int32} (hE : K_C_still N a0 h = some res) : ConI l y_C_still prog_1_method_19_code 4 (Option.some Jvm.ClassFile.FieldType.int) rm_C_still K WC ad h [.ref (ad 0), .int a0] res h := fun sz =>
  con_start [(0, .ref (ad 0)), (1, .int a0)] (by decide +kernel) rfl (Nat.le_of_ble_eq_true rfl) (fun p e s m args below meth c C0 hr hnm hsz => w_C_still C0 hr N a0 h hE)
abbrev y_C_surely : MethodName := ⟨"CanoeSides", "surely", "(I)I"⟩
abbrev rm_C_surely : Room := { frames := 5, cells := 0, slots := 0, locals := 123 }
theorem cd_C_surely : cwd y_C_surely 1 := by decide +kernel
theorem d_C_surely_0 : decode prog_1_method_20_code 0 = .ok (.iload_n 1, 1) := by decide +kernel
theorem d_C_surely_1 : decode prog_1_method_20_code 1 = .ok (.iconst 0, 1) := by decide +kernel
theorem d_C_surely_2 : decode prog_1_method_20_code 2 = .ok (.iconst 1, 1) := by decide +kernel
theorem d_C_surely_3 : decode prog_1_method_20_code 3 = .ok (.invokestatic 96, 3) := by decide +kernel
theorem d_C_surely_6 : decode prog_1_method_20_code 6 = .ok (.ifCond .eq 6, 3) := by decide +kernel
theorem d_C_surely_9 : decode prog_1_method_20_code 9 = .ok (.ldc 100, 2) := by decide +kernel
theorem d_C_surely_11 : decode prog_1_method_20_code 11 = .ok (.ireturn, 1) := by decide +kernel
theorem d_C_surely_12 : decode prog_1_method_20_code 12 = .ok (.aload_n 0, 1) := by decide +kernel
theorem d_C_surely_13 : decode prog_1_method_20_code 13 = .ok (.invokevirtual 143, 3) := by decide +kernel
theorem d_C_surely_16 : decode prog_1_method_20_code 16 = .ok (.ifCond .eq 6, 3) := by decide +kernel
theorem d_C_surely_19 : decode prog_1_method_20_code 19 = .ok (.ldc 147, 2) := by decide +kernel
theorem d_C_surely_21 : decode prog_1_method_20_code 21 = .ok (.ireturn, 1) := by decide +kernel
theorem d_C_surely_22 : decode prog_1_method_20_code 22 = .ok (.aload_n 0, 1) := by decide +kernel
theorem d_C_surely_23 : decode prog_1_method_20_code 23 = .ok (.getfield 88, 3) := by decide +kernel
theorem d_C_surely_26 : decode prog_1_method_20_code 26 = .ok (.aload_n 0, 1) := by decide +kernel
theorem d_C_surely_27 : decode prog_1_method_20_code 27 = .ok (.getfield 23, 3) := by decide +kernel
theorem d_C_surely_30 : decode prog_1_method_20_code 30 = .ok (.aload_n 0, 1) := by decide +kernel
theorem d_C_surely_31 : decode prog_1_method_20_code 31 = .ok (.getfield 39, 3) := by decide +kernel
theorem d_C_surely_34 : decode prog_1_method_20_code 34 = .ok (.aload_n 0, 1) := by decide +kernel
theorem d_C_surely_35 : decode prog_1_method_20_code 35 = .ok (.getfield 49, 3) := by decide +kernel
theorem d_C_surely_38 : decode prog_1_method_20_code 38 = .ok (.getfield 152, 3) := by decide +kernel
theorem d_C_surely_41 : decode prog_1_method_20_code 41 = .ok (.invokevirtual 227, 3) := by decide +kernel
theorem d_C_surely_44 : decode prog_1_method_20_code 44 = .ok (.iload_n 1, 1) := by decide +kernel
theorem d_C_surely_45 : decode prog_1_method_20_code 45 = .ok (.ifCond .ne 13, 3) := by decide +kernel
theorem d_C_surely_48 : decode prog_1_method_20_code 48 = .ok (.aload_n 0, 1) := by decide +kernel
theorem d_C_surely_49 : decode prog_1_method_20_code 49 = .ok (.getfield 88, 3) := by decide +kernel
theorem d_C_surely_52 : decode prog_1_method_20_code 52 = .ok (.getfield 230, 3) := by decide +kernel
theorem d_C_surely_55 : decode prog_1_method_20_code 55 = .ok (.goto 10, 3) := by decide +kernel
theorem d_C_surely_58 : decode prog_1_method_20_code 58 = .ok (.aload_n 0, 1) := by decide +kernel
theorem d_C_surely_59 : decode prog_1_method_20_code 59 = .ok (.getfield 88, 3) := by decide +kernel
theorem d_C_surely_62 : decode prog_1_method_20_code 62 = .ok (.getfield 231, 3) := by decide +kernel
theorem d_C_surely_65 : decode prog_1_method_20_code 65 = .ok (.ireturn, 1) := by decide +kernel
theorem w_C_surely {p : Program} {l : Launch} {e : Env} {s : State} {m : MethodId} {args : Array Value} {below : List Frame} {meth : Method} {c : Code} {K : KT} {A : Nat → Prop} (C0 : Cx p s m args meth c prog_1_method_20_code "CanoeSides" 2 K A) (hr : meth.sig.returnType = (Option.some Jvm.ClassFile.FieldType.int)) {ad : Nat → Nat} (N : Nat) (a0 : Int32) (h : Hp) {res : Int32 × Hp} (hE : K_C_surely N a0 h = some res) : G p l e rm_C_surely s m args below meth c K A WC 2 0 0 (QI s args below K A WC 0 0 ad res.1 res.2) 0 [(0, .ref (ad 0)), (1, .int a0)] [] ad h := by
  unfold K_C_surely at hE
  refine g_iload_n C0 1 d_C_surely_0 rfl rfl ?_
  refine g_iconst C0 (v := 0) d_C_surely_1 (by decide) ?_
  refine g_iconst C0 (v := 1) d_C_surely_2 (by decide) ?_
  obtain ⟨v3, z3, hE⟩ := bd_some hE
  refine g_calliP C0 nd_C [] rfl (sb_E_C) (runS C0 (m_C_isOutside l K ad h a0 0 1 z3) 3 ⟨t_499, t_500, t_85, t_501⟩ cd_C_isOutside (by decide) (sb_E_C) nd_E rfl rfl (Nat.le_of_ble_eq_true rfl) d_C_surely_3) ?_
  have hB := ite_some hE
  refine g_if_eq C0 (tgt := 12) d_C_surely_6 (by decide) (fun c_ => ?_) (fun c_ => ?_)
  · replace hE := hB.1 c_
    refine g_aload_n C0 0 d_C_surely_12 rfl rfl ?_
    obtain ⟨v13, z13, hE⟩ := bd_some hE
    refine g_calliP C0 nd_C [0, 2, 10, 11, 12, 15, 16, 17, 20, 21, 22, 25, 26, 27, 30, 33, 35, 36, 40, 41, 42, 43, 45, 46, 47, 48, 49, 55, 56, 60, 61, 62, 63, 64] rfl (sbW_self WC) (runV C0 (m_C_noSquares l K ad h z13) 0 rfl ⟨t_755, t_757, t_18, t_85, t_758⟩ cd_C_noSquares (by decide) 0 rfl rfl (sbW_self WC) nd_C rfl rfl (Nat.le_of_ble_eq_true rfl) d_C_surely_13) ?_
    have hB := ite_some hE
    refine g_if_eq C0 (tgt := 22) d_C_surely_16 (by decide) (fun c_ => ?_) (fun c_ => ?_)
    · replace hE := hB.1 c_
      refine g_aload_n C0 0 d_C_surely_22 rfl rfl ?_
      refine g_getr C0 CK_10 13 (by decide) t_465 0 rfl rfl d_C_surely_23 ?_
      refine g_aload_n C0 0 d_C_surely_26 rfl rfl ?_
      refine g_getr C0 CK_10 3 (by decide) t_455 0 rfl rfl d_C_surely_27 ?_
      refine g_aload_n C0 0 d_C_surely_30 rfl rfl ?_
      refine g_getr C0 CK_10 5 (by decide) t_457 0 rfl rfl d_C_surely_31 ?_
      refine g_aload_n C0 0 d_C_surely_34 rfl rfl ?_
      refine g_getr C0 CK_10 7 (by decide) t_459 0 rfl rfl d_C_surely_35 ?_
      refine g_getiN C0 CK_0 0 (by decide) t_235 14 rfl rfl d_C_surely_38 ?_
      obtain ⟨h41, z41, hE⟩ := bd_some hE
      refine g_callv C0 nd_C [55, 56, 10, 11, 12, 20, 21, 22, 15, 16, 17] rfl (sb_Gusts_C) (runV C0 (m_Gusts_look l K ad h N (h 30 0) z41) 3 rfl ⟨t_948, t_949, t_950, t_95, t_951⟩ cd_Gusts_look (by decide) 27 rfl rfl (sb_Gusts_C) nd_Gusts rfl rfl (Nat.le_of_ble_eq_true rfl) d_C_surely_41) ?_
      obtain ⟨h41m, e41, hE⟩ := nm_some hE
      refine g_heap e41 ?_
      refine g_iload_n C0 1 d_C_surely_44 rfl rfl ?_
      have hB := ite_some hE
      refine g_if_ne C0 (tgt := 58) d_C_surely_45 (by decide) (fun c_ => ?_) (fun c_ => ?_)
      · replace hE := hB.2 c_
        refine g_aload_n C0 0 d_C_surely_58 rfl rfl ?_
        refine g_getr C0 CK_10 13 (by decide) t_465 0 rfl rfl d_C_surely_59 ?_
        refine g_getiN C0 CK_3 2 (by decide) t_367 27 rfl rfl d_C_surely_62 ?_
        obtain rfl := Option.some.inj hE
        exact g_iret C0 hr d_C_surely_65
      · replace hE := hB.1 c_
        refine g_aload_n C0 0 d_C_surely_48 rfl rfl ?_
        refine g_getr C0 CK_10 13 (by decide) t_465 0 rfl rfl d_C_surely_49 ?_
        refine g_getiN C0 CK_3 1 (by decide) t_365 27 rfl rfl d_C_surely_52 ?_
        refine g_goto C0 (tgt := 65) d_C_surely_55 (by decide) ?_
        obtain rfl := Option.some.inj hE
        exact g_iret C0 hr d_C_surely_65
    · replace hE := hB.2 c_
      refine g_ldc C0 (v := (-1000000003)) t_759 d_C_surely_19 ?_
      obtain rfl := Option.some.inj hE
      exact g_iret C0 hr d_C_surely_21
  · replace hE := hB.2 c_
    refine g_ldc C0 (v := (-1000000002)) t_502 d_C_surely_9 ?_
    obtain rfl := Option.some.inj hE
    exact g_iret C0 hr d_C_surely_11
theorem m_C_surely (l : Launch) (K : KT) (ad : Nat → Nat) (h : Hp) (N : Nat) (a0 : Int32) {res : Int32 × Hp} (hE : K_C_surely N a0 h = some res) : ConI l y_C_surely prog_1_method_20_code 2 (Option.some Jvm.ClassFile.FieldType.int) rm_C_surely K WC ad h [.ref (ad 0), .int a0] res.1 res.2 := fun sz =>
  con_start [(0, .ref (ad 0)), (1, .int a0)] (by decide +kernel) rfl (Nat.le_of_ble_eq_true rfl) (fun p e s m args below meth c C0 hr hnm hsz => w_C_surely C0 hr N a0 h hE)
abbrev y_C_alone : MethodName := ⟨"CanoeSides", "alone", "()I"⟩
abbrev rm_C_alone : Room := { frames := 6, cells := 0, slots := 0, locals := 153 }
theorem cd_C_alone : cwd y_C_alone 0 := by decide +kernel
theorem d_C_alone_0 : decode prog_1_method_21_code 0 = .ok (.aload_n 0, 1) := by decide +kernel
theorem d_C_alone_1 : decode prog_1_method_21_code 1 = .ok (.invokevirtual 143, 3) := by decide +kernel
theorem d_C_alone_4 : decode prog_1_method_21_code 4 = .ok (.ifCond .eq 6, 3) := by decide +kernel
theorem d_C_alone_7 : decode prog_1_method_21_code 7 = .ok (.ldc 147, 2) := by decide +kernel
theorem d_C_alone_9 : decode prog_1_method_21_code 9 = .ok (.ireturn, 1) := by decide +kernel
theorem d_C_alone_10 : decode prog_1_method_21_code 10 = .ok (.aload_n 0, 1) := by decide +kernel
theorem d_C_alone_11 : decode prog_1_method_21_code 11 = .ok (.getfield 74, 3) := by decide +kernel
theorem d_C_alone_14 : decode prog_1_method_21_code 14 = .ok (.aload_n 0, 1) := by decide +kernel
theorem d_C_alone_15 : decode prog_1_method_21_code 15 = .ok (.getfield 23, 3) := by decide +kernel
theorem d_C_alone_18 : decode prog_1_method_21_code 18 = .ok (.aload_n 0, 1) := by decide +kernel
theorem d_C_alone_19 : decode prog_1_method_21_code 19 = .ok (.getfield 39, 3) := by decide +kernel
theorem d_C_alone_22 : decode prog_1_method_21_code 22 = .ok (.aload_n 0, 1) := by decide +kernel
theorem d_C_alone_23 : decode prog_1_method_21_code 23 = .ok (.invokevirtual 158, 3) := by decide +kernel
theorem d_C_alone_26 : decode prog_1_method_21_code 26 = .ok (.bipush 10, 2) := by decide +kernel
theorem d_C_alone_28 : decode prog_1_method_21_code 28 = .ok (.invokevirtual 189, 3) := by decide +kernel
theorem d_C_alone_31 : decode prog_1_method_21_code 31 = .ok (.aload_n 0, 1) := by decide +kernel
theorem d_C_alone_32 : decode prog_1_method_21_code 32 = .ok (.getfield 74, 3) := by decide +kernel
theorem d_C_alone_35 : decode prog_1_method_21_code 35 = .ok (.getfield 193, 3) := by decide +kernel
theorem d_C_alone_38 : decode prog_1_method_21_code 38 = .ok (.ireturn, 1) := by decide +kernel
theorem w_C_alone {p : Program} {l : Launch} {e : Env} {s : State} {m : MethodId} {args : Array Value} {below : List Frame} {meth : Method} {c : Code} {K : KT} {A : Nat → Prop} (C0 : Cx p s m args meth c prog_1_method_21_code "CanoeSides" 1 K A) (hr : meth.sig.returnType = (Option.some Jvm.ClassFile.FieldType.int)) {ad : Nat → Nat} (N : Nat) (h : Hp) {res : Int32 × Hp} (hE : K_C_alone N h = some res) : G p l e rm_C_alone s m args below meth c K A WC 1 0 0 (QI s args below K A WC 0 0 ad res.1 res.2) 0 [(0, .ref (ad 0))] [] ad h := by
  unfold K_C_alone at hE
  refine g_aload_n C0 0 d_C_alone_0 rfl rfl ?_
  obtain ⟨v1, z1, hE⟩ := bd_some hE
  refine g_calliP C0 nd_C [0, 2, 10, 11, 12, 15, 16, 17, 20, 21, 22, 25, 26, 27, 30, 33, 35, 36, 40, 41, 42, 43, 45, 46, 47, 48, 49, 55, 56, 60, 61, 62, 63, 64] rfl (sbW_self WC) (runV C0 (m_C_noSquares l K ad h z1) 0 rfl ⟨t_755, t_757, t_18, t_85, t_758⟩ cd_C_noSquares (by decide) 0 rfl rfl (sbW_self WC) nd_C rfl rfl (Nat.le_of_ble_eq_true rfl) d_C_alone_1) ?_
  have hB := ite_some hE
  refine g_if_eq C0 (tgt := 10) d_C_alone_4 (by decide) (fun c_ => ?_) (fun c_ => ?_)
  · replace hE := hB.1 c_
    refine g_aload_n C0 0 d_C_alone_10 rfl rfl ?_
    refine g_getr C0 CK_10 11 (by decide) t_463 0 rfl rfl d_C_alone_11 ?_
    refine g_aload_n C0 0 d_C_alone_14 rfl rfl ?_
    refine g_getr C0 CK_10 3 (by decide) t_455 0 rfl rfl d_C_alone_15 ?_
    refine g_aload_n C0 0 d_C_alone_18 rfl rfl ?_
    refine g_getr C0 CK_10 5 (by decide) t_457 0 rfl rfl d_C_alone_19 ?_
    refine g_aload_n C0 0 d_C_alone_22 rfl rfl ?_
    obtain ⟨v23, z23, hE⟩ := bd_some hE
    refine g_calliP C0 nd_C [0, 2, 10, 11, 12, 15, 16, 17, 20, 21, 22, 25, 26, 27, 30, 33, 35, 36, 40, 41, 42, 43, 45, 46, 47, 48, 49, 55, 56, 60, 61, 62, 63, 64] rfl (sbW_self WC) (runV C0 (m_C_moment l K ad h z23) 0 rfl ⟨t_764, t_766, t_20, t_85, t_767⟩ cd_C_moment (by decide) 0 rfl rfl (sbW_self WC) nd_C rfl rfl (Nat.le_of_ble_eq_true rfl) d_C_alone_23) ?_
    refine g_bipush C0 (v := 10) d_C_alone_26 (by decide) ?_
    obtain ⟨h28, z28, hE⟩ := bd_some hE
    refine g_callv C0 nd_C [40, 41, 42, 43, 10, 11, 12, 20, 21, 22, 15, 16, 17] rfl (sb_Search_C) (runV C0 (m_Search_look l K ad h N v23 10 z28) 4 rfl ⟨t_841, t_842, t_843, t_93, t_844⟩ cd_Search_look (by decide) 18 rfl rfl (sb_Search_C) nd_Search rfl rfl (Nat.le_of_ble_eq_true rfl) d_C_alone_28) ?_
    obtain ⟨h28m, e28, hE⟩ := nm_some hE
    refine g_heap e28 ?_
    refine g_aload_n C0 0 d_C_alone_31 rfl rfl ?_
    refine g_getr C0 CK_10 11 (by decide) t_463 0 rfl rfl d_C_alone_32 ?_
    refine g_getiN C0 CK_8 5 (by decide) t_304 18 rfl rfl d_C_alone_35 ?_
    obtain rfl := Option.some.inj hE
    exact g_iret C0 hr d_C_alone_38
  · replace hE := hB.2 c_
    refine g_ldc C0 (v := (-1000000003)) t_759 d_C_alone_7 ?_
    obtain rfl := Option.some.inj hE
    exact g_iret C0 hr d_C_alone_9
theorem m_C_alone (l : Launch) (K : KT) (ad : Nat → Nat) (h : Hp) (N : Nat) {res : Int32 × Hp} (hE : K_C_alone N h = some res) : ConI l y_C_alone prog_1_method_21_code 1 (Option.some Jvm.ClassFile.FieldType.int) rm_C_alone K WC ad h [.ref (ad 0)] res.1 res.2 := fun sz =>
  con_start [(0, .ref (ad 0))] (by decide +kernel) rfl (Nat.le_of_ble_eq_true rfl) (fun p e s m args below meth c C0 hr hnm hsz => w_C_alone C0 hr N h hE)
abbrev y_C_byRule : MethodName := ⟨"CanoeSides", "byRule", "(II)I"⟩
abbrev rm_C_byRule : Room := { frames := 0, cells := 0, slots := 0, locals := 0 }
theorem cd_C_byRule : cwd y_C_byRule 2 := by decide +kernel
theorem d_C_byRule_0 : decode prog_1_method_53_code 0 = .ok (.iload_n 0, 1) := by decide +kernel
theorem d_C_byRule_1 : decode prog_1_method_53_code 1 = .ok (.tableswitch 33 0 2 #[27, 29, 31], 27) := by decide +kernel
theorem d_C_byRule_28 : decode prog_1_method_53_code 28 = .ok (.iconst 0, 1) := by decide +kernel
theorem d_C_byRule_29 : decode prog_1_method_53_code 29 = .ok (.ireturn, 1) := by decide +kernel
theorem d_C_byRule_30 : decode prog_1_method_53_code 30 = .ok (.iconst 1, 1) := by decide +kernel
theorem d_C_byRule_31 : decode prog_1_method_53_code 31 = .ok (.ireturn, 1) := by decide +kernel
theorem d_C_byRule_32 : decode prog_1_method_53_code 32 = .ok (.iload_n 1, 1) := by decide +kernel
theorem d_C_byRule_33 : decode prog_1_method_53_code 33 = .ok (.ireturn, 1) := by decide +kernel
theorem d_C_byRule_34 : decode prog_1_method_53_code 34 = .ok (.iload_n 1, 1) := by decide +kernel
theorem d_C_byRule_35 : decode prog_1_method_53_code 35 = .ok (.ifCond .ne 7, 3) := by decide +kernel
theorem d_C_byRule_38 : decode prog_1_method_53_code 38 = .ok (.iconst 1, 1) := by decide +kernel
theorem d_C_byRule_39 : decode prog_1_method_53_code 39 = .ok (.goto 13, 3) := by decide +kernel
theorem d_C_byRule_42 : decode prog_1_method_53_code 42 = .ok (.iload_n 1, 1) := by decide +kernel
theorem d_C_byRule_43 : decode prog_1_method_53_code 43 = .ok (.iconst 1, 1) := by decide +kernel
theorem d_C_byRule_44 : decode prog_1_method_53_code 44 = .ok (.if_icmp .ne 7, 3) := by decide +kernel
theorem d_C_byRule_47 : decode prog_1_method_53_code 47 = .ok (.iconst 0, 1) := by decide +kernel
theorem d_C_byRule_48 : decode prog_1_method_53_code 48 = .ok (.goto 4, 3) := by decide +kernel
theorem d_C_byRule_51 : decode prog_1_method_53_code 51 = .ok (.iload_n 1, 1) := by decide +kernel
theorem d_C_byRule_52 : decode prog_1_method_53_code 52 = .ok (.ireturn, 1) := by decide +kernel
theorem w_C_byRule {p : Program} {l : Launch} {e : Env} {s : State} {m : MethodId} {args : Array Value} {below : List Frame} {meth : Method} {c : Code} {K : KT} {A : Nat → Prop} (C0 : Cx p s m args meth c prog_1_method_53_code "CanoeSides" 2 K A) (hr : meth.sig.returnType = (Option.some Jvm.ClassFile.FieldType.int)) {ad : Nat → Nat} (a0 : Int32) (b0 : Int32) (h : Hp) {res : Int32} (hE : K_C_byRule a0 b0 = some res) : G p l e rm_C_byRule s m args below meth c K A WE 2 0 0 (QI s args below K A WE 0 0 ad res h) 0 [(0, .int a0), (1, .int b0)] [] ad h := by
  unfold K_C_byRule at hE
  refine g_iload_n C0 0 d_C_byRule_0 rfl rfl ?_
  have hB := ite_some hE
  by_cases c_0 : a0 = 0
  · replace hE := hB.1 c_0
    refine g_tableIn C0 (tgt := 28) (off := 27) d_C_byRule_1 (by rw [c_0]; decide) (by rw [c_0]; decide) (by rw [c_0]; rfl) (by decide) ?_
    refine g_iconst C0 (v := 0) d_C_byRule_28 (by decide) ?_
    obtain rfl := Option.some.inj hE
    exact g_iret C0 hr d_C_byRule_29
  · replace hE := hB.2 c_0
    have hB := ite_some hE
    by_cases c_1 : a0 = 1
    · replace hE := hB.1 c_1
      refine g_tableIn C0 (tgt := 30) (off := 29) d_C_byRule_1 (by rw [c_1]; decide) (by rw [c_1]; decide) (by rw [c_1]; rfl) (by decide) ?_
      refine g_iconst C0 (v := 1) d_C_byRule_30 (by decide) ?_
      obtain rfl := Option.some.inj hE
      exact g_iret C0 hr d_C_byRule_31
    · replace hE := hB.2 c_1
      have hB := ite_some hE
      by_cases c_2 : a0 = 2
      · replace hE := hB.1 c_2
        refine g_tableIn C0 (tgt := 32) (off := 31) d_C_byRule_1 (by rw [c_2]; decide) (by rw [c_2]; decide) (by rw [c_2]; rfl) (by decide) ?_
        refine g_iload_n C0 1 d_C_byRule_32 rfl rfl ?_
        obtain rfl := Option.some.inj hE
        exact g_iret C0 hr d_C_byRule_33
      · replace hE := hB.2 c_2
        refine g_tableOut C0 (tgt := 34) d_C_byRule_1 (by have n_0 := i32_ne (j := 0) c_0 (by decide) (by decide); have n_1 := i32_ne (j := 1) c_1 (by decide) (by decide); have n_2 := i32_ne (j := 2) c_2 (by decide) (by decide); omega) (by decide) ?_
        refine g_iload_n C0 1 d_C_byRule_34 rfl rfl ?_
        have hB := ite_some hE
        refine g_if_ne C0 (tgt := 42) d_C_byRule_35 (by decide) (fun c_ => ?_) (fun c_ => ?_)
        · replace hE := hB.2 c_
          refine g_iload_n C0 1 d_C_byRule_42 rfl rfl ?_
          refine g_iconst C0 (v := 1) d_C_byRule_43 (by decide) ?_
          have hB := ite_some hE
          refine g_icmp_ne C0 (tgt := 51) d_C_byRule_44 (by decide) (fun c_ => ?_) (fun c_ => ?_)
          · replace hE := hB.2 c_
            refine g_iload_n C0 1 d_C_byRule_51 rfl rfl ?_
            obtain rfl := Option.some.inj hE
            exact g_iret C0 hr d_C_byRule_52
          · replace hE := hB.1 c_
            refine g_iconst C0 (v := 0) d_C_byRule_47 (by decide) ?_
            refine g_goto C0 (tgt := 52) d_C_byRule_48 (by decide) ?_
            obtain rfl := Option.some.inj hE
            exact g_iret C0 hr d_C_byRule_52
        · replace hE := hB.1 c_
          refine g_iconst C0 (v := 1) d_C_byRule_38 (by decide) ?_
          refine g_goto C0 (tgt := 52) d_C_byRule_39 (by decide) ?_
          obtain rfl := Option.some.inj hE
          exact g_iret C0 hr d_C_byRule_52
theorem m_C_byRule (l : Launch) (K : KT) (ad : Nat → Nat) (h : Hp) (a0 : Int32) (b0 : Int32) {res : Int32} (hE : K_C_byRule a0 b0 = some res) : ConI l y_C_byRule prog_1_method_53_code 2 (Option.some Jvm.ClassFile.FieldType.int) rm_C_byRule K WE ad h [.int a0, .int b0] res h := fun sz =>
  con_start [(0, .int a0), (1, .int b0)] (by decide +kernel) rfl (Nat.le_of_ble_eq_true rfl) (fun p e s m args below meth c C0 hr hnm hsz => w_C_byRule C0 hr a0 b0 h hE)
abbrev y_C_strokesByRules : MethodName := ⟨"CanoeSides", "strokesByRules", "(I)I"⟩
abbrev rm_C_strokesByRules : Room := { frames := 3, cells := 0, slots := 0, locals := 73 }
theorem cd_C_strokesByRules : cwd y_C_strokesByRules 1 := by decide +kernel
theorem d_C_strokesByRules_0 : decode prog_1_method_52_code 0 = .ok (.aload_n 0, 1) := by decide +kernel
theorem d_C_strokesByRules_1 : decode prog_1_method_52_code 1 = .ok (.invokevirtual 158, 3) := by decide +kernel
theorem d_C_strokesByRules_4 : decode prog_1_method_52_code 4 = .ok (.istore_n 2, 1) := by decide +kernel
theorem d_C_strokesByRules_5 : decode prog_1_method_52_code 5 = .ok (.iconst 0, 1) := by decide +kernel
theorem d_C_strokesByRules_6 : decode prog_1_method_52_code 6 = .ok (.istore_n 3, 1) := by decide +kernel
theorem d_C_strokesByRules_7 : decode prog_1_method_52_code 7 = .ok (.iconst 0, 1) := by decide +kernel
theorem d_C_strokesByRules_8 : decode prog_1_method_52_code 8 = .ok (.istore 4, 2) := by decide +kernel
theorem d_C_strokesByRules_10 : decode prog_1_method_52_code 10 = .ok (.iconst 0, 1) := by decide +kernel
theorem d_C_strokesByRules_11 : decode prog_1_method_52_code 11 = .ok (.istore 5, 2) := by decide +kernel
theorem d_C_strokesByRules_13 : decode prog_1_method_52_code 13 = .ok (.iload 5, 2) := by decide +kernel
theorem d_C_strokesByRules_15 : decode prog_1_method_52_code 15 = .ok (.bipush 60, 2) := by decide +kernel
theorem d_C_strokesByRules_17 : decode prog_1_method_52_code 17 = .ok (.if_icmp .gt 64, 3) := by decide +kernel
theorem d_C_strokesByRules_20 : decode prog_1_method_52_code 20 = .ok (.aload_n 0, 1) := by decide +kernel
theorem d_C_strokesByRules_21 : decode prog_1_method_52_code 21 = .ok (.getfield 23, 3) := by decide +kernel
theorem d_C_strokesByRules_24 : decode prog_1_method_52_code 24 = .ok (.iload_n 2, 1) := by decide +kernel
theorem d_C_strokesByRules_25 : decode prog_1_method_52_code 25 = .ok (.sipush 384, 3) := by decide +kernel
theorem d_C_strokesByRules_28 : decode prog_1_method_52_code 28 = .ok (.irem, 1) := by decide +kernel
theorem d_C_strokesByRules_29 : decode prog_1_method_52_code 29 = .ok (.invokevirtual 331, 3) := by decide +kernel
theorem d_C_strokesByRules_32 : decode prog_1_method_52_code 32 = .ok (.ifCond .eq 6, 3) := by decide +kernel
theorem d_C_strokesByRules_35 : decode prog_1_method_52_code 35 = .ok (.iload 5, 2) := by decide +kernel
theorem d_C_strokesByRules_37 : decode prog_1_method_52_code 37 = .ok (.ireturn, 1) := by decide +kernel
theorem d_C_strokesByRules_38 : decode prog_1_method_52_code 38 = .ok (.aload_n 0, 1) := by decide +kernel
theorem d_C_strokesByRules_39 : decode prog_1_method_52_code 39 = .ok (.getfield 39, 3) := by decide +kernel
theorem d_C_strokesByRules_42 : decode prog_1_method_52_code 42 = .ok (.iload_n 2, 1) := by decide +kernel
theorem d_C_strokesByRules_43 : decode prog_1_method_52_code 43 = .ok (.iconst 4, 1) := by decide +kernel
theorem d_C_strokesByRules_44 : decode prog_1_method_52_code 44 = .ok (.iload_n 3, 1) := by decide +kernel
theorem d_C_strokesByRules_45 : decode prog_1_method_52_code 45 = .ok (.imul, 1) := by decide +kernel
theorem d_C_strokesByRules_46 : decode prog_1_method_52_code 46 = .ok (.iload 4, 2) := by decide +kernel
theorem d_C_strokesByRules_48 : decode prog_1_method_52_code 48 = .ok (.iadd, 1) := by decide +kernel
theorem d_C_strokesByRules_49 : decode prog_1_method_52_code 49 = .ok (.invokevirtual 162, 3) := by decide +kernel
theorem d_C_strokesByRules_52 : decode prog_1_method_52_code 52 = .ok (.istore_n 2, 1) := by decide +kernel
theorem d_C_strokesByRules_53 : decode prog_1_method_52_code 53 = .ok (.iload_n 3, 1) := by decide +kernel
theorem d_C_strokesByRules_54 : decode prog_1_method_52_code 54 = .ok (.istore 6, 2) := by decide +kernel
theorem d_C_strokesByRules_56 : decode prog_1_method_52_code 56 = .ok (.iload_n 1, 1) := by decide +kernel
theorem d_C_strokesByRules_57 : decode prog_1_method_52_code 57 = .ok (.iconst 4, 1) := by decide +kernel
theorem d_C_strokesByRules_58 : decode prog_1_method_52_code 58 = .ok (.idiv, 1) := by decide +kernel
theorem d_C_strokesByRules_59 : decode prog_1_method_52_code 59 = .ok (.iload 4, 2) := by decide +kernel
theorem d_C_strokesByRules_61 : decode prog_1_method_52_code 61 = .ok (.invokestatic 341, 3) := by decide +kernel
theorem d_C_strokesByRules_64 : decode prog_1_method_52_code 64 = .ok (.istore_n 3, 1) := by decide +kernel
theorem d_C_strokesByRules_65 : decode prog_1_method_52_code 65 = .ok (.iload_n 1, 1) := by decide +kernel
theorem d_C_strokesByRules_66 : decode prog_1_method_52_code 66 = .ok (.iconst 4, 1) := by decide +kernel
theorem d_C_strokesByRules_67 : decode prog_1_method_52_code 67 = .ok (.irem, 1) := by decide +kernel
theorem d_C_strokesByRules_68 : decode prog_1_method_52_code 68 = .ok (.iload 6, 2) := by decide +kernel
theorem d_C_strokesByRules_70 : decode prog_1_method_52_code 70 = .ok (.invokestatic 341, 3) := by decide +kernel
theorem d_C_strokesByRules_73 : decode prog_1_method_52_code 73 = .ok (.istore 4, 2) := by decide +kernel
theorem d_C_strokesByRules_75 : decode prog_1_method_52_code 75 = .ok (.iinc 5 1, 3) := by decide +kernel
theorem d_C_strokesByRules_78 : decode prog_1_method_52_code 78 = .ok (.goto (-65), 3) := by decide +kernel
theorem d_C_strokesByRules_81 : decode prog_1_method_52_code 81 = .ok (.iconst (-1), 1) := by decide +kernel
theorem d_C_strokesByRules_82 : decode prog_1_method_52_code 82 = .ok (.ireturn, 1) := by decide +kernel
theorem w_C_strokesByRules_L13 {p : Program} {l : Launch} {e : Env} {s : State} {m : MethodId} {args : Array Value} {below : List Frame} {meth : Method} {c : Code} {K : KT} {A : Nat → Prop} {Q : State → Prop} (C0 : Cx p s m args meth c prog_1_method_52_code "CanoeSides" 7 K A) (hr : meth.sig.returnType = (Option.some Jvm.ClassFile.FieldType.int)) {ad : Nat → Nat} (N : Nat) (x1 : Int32) (x2 : Int32) (x3 : Int32) (x4 : Int32) (x5 : Int32) (h : Hp) {x_ : (Int32 × Int32 × Int32 × Int32) ⊕ (Int32) ⊕ (Unit)} (hE : K_C_strokesByRules_L13 N x1 x2 x3 x4 x5 h = some x_) (hk1 : ∀ z_, x_ = .inl z_ → G p l e rm_C_strokesByRules s m args below meth c K A WC 7 0 0 Q 13 [(0, .ref (ad 0)), (1, .int x1), (2, .int z_.1), (3, .int z_.2.1), (4, .int z_.2.2.1), (5, .int z_.2.2.2)] [] ad h) (hk2 : ∀ r_, x_ = .inr (.inl r_) → Q = (QI s args below K A WC 0 0 ad r_ h)) (hk3 : ∀ z_, x_ = .inr (.inr z_) → G p l e rm_C_strokesByRules s m args below meth c K A WC 7 0 0 Q 81 [] [] ad h) : G p l e rm_C_strokesByRules s m args below meth c K A WC 7 0 0 Q 13 [(0, .ref (ad 0)), (1, .int x1), (2, .int x2), (3, .int x3), (4, .int x4), (5, .int x5)] [] ad h := by
  unfold K_C_strokesByRules_L13 at hE
  refine g_iload C0 5 d_C_strokesByRules_13 rfl ?_
  refine g_bipush C0 (v := 60) d_C_strokesByRules_15 (by decide) ?_
  have hB := ite_some hE
  refine g_icmp_gt C0 (tgt := 81) d_C_strokesByRules_17 (by decide) (fun c_ => ?_) (fun c_ => ?_)
  · replace hE := hB.1 c_
    refine g_sub [] (L' := []) rfl ?_
    exact hk3 _ (Option.some.inj hE).symm
  · replace hE := hB.2 c_
    refine g_aload_n C0 0 d_C_strokesByRules_20 rfl rfl ?_
    refine g_getr C0 CK_10 3 (by decide) t_455 0 rfl rfl d_C_strokesByRules_21 ?_
    refine g_iload_n C0 2 d_C_strokesByRules_24 rfl rfl ?_
    refine g_sipush C0 (v := 384) d_C_strokesByRules_25 (by decide) ?_
    refine g_irem C0 d_C_strokesByRules_28 (by decide) ?_
    obtain ⟨v29, z29, hE⟩ := bd_some hE
    refine g_calliP C0 nd_C [10, 11, 12] rfl (sb_River_C) (runV C0 (m_River_isGoal l K ad h (rm32 x2 384) z29) 1 rfl ⟨t_729, t_730, t_731, t_86, t_732⟩ cd_River_isGoal (by decide) 2 rfl rfl (sb_River_C) nd_River rfl rfl (Nat.le_of_ble_eq_true rfl) d_C_strokesByRules_29) ?_
    have hB := ite_some hE
    refine g_if_eq C0 (tgt := 38) d_C_strokesByRules_32 (by decide) (fun c_ => ?_) (fun c_ => ?_)
    · replace hE := hB.1 c_
      refine g_aload_n C0 0 d_C_strokesByRules_38 rfl rfl ?_
      refine g_getr C0 CK_10 5 (by decide) t_457 0 rfl rfl d_C_strokesByRules_39 ?_
      refine g_iload_n C0 2 d_C_strokesByRules_42 rfl rfl ?_
      refine g_iconst C0 (v := 4) d_C_strokesByRules_43 (by decide) ?_
      refine g_iload_n C0 3 d_C_strokesByRules_44 rfl rfl ?_
      refine g_imul C0 d_C_strokesByRules_45 ?_
      refine g_iload C0 4 d_C_strokesByRules_46 rfl ?_
      refine g_iadd C0 d_C_strokesByRules_48 ?_
      obtain ⟨v49, z49, hE⟩ := bd_some hE
      refine g_calliP C0 nd_C [20, 21, 22, 15, 16, 17] rfl (sb_Crew_C) (runV C0 (m_Crew_after l K ad h x2 ((4 * x3) + x4) z49) 2 rfl ⟨t_772, t_773, t_774, t_89, t_775⟩ cd_Crew_after (by decide) 8 rfl rfl (sb_Crew_C) nd_Crew rfl rfl (Nat.le_of_ble_eq_true rfl) d_C_strokesByRules_49) ?_
      refine g_istore_n C0 [(2, .int v49), (0, .ref (ad 0)), (1, .int x1), (3, .int x3), (4, .int x4), (5, .int x5)] d_C_strokesByRules_52 rfl (by decide) rfl ?_
      refine g_iload_n C0 3 d_C_strokesByRules_53 rfl rfl ?_
      refine g_istore C0 [(6, .int x3), (2, .int v49), (0, .ref (ad 0)), (1, .int x1), (3, .int x3), (4, .int x4), (5, .int x5)] d_C_strokesByRules_54 (by decide) rfl ?_
      refine g_iload_n C0 3 d_C_strokesByRules_56 rfl rfl ?_
      refine g_iconst C0 (v := 4) d_C_strokesByRules_57 (by decide) ?_
      refine g_idiv C0 d_C_strokesByRules_58 (by decide) ?_
      refine g_iload C0 5 d_C_strokesByRules_59 rfl ?_
      obtain ⟨v61, z61, hE⟩ := bd_some hE
      refine g_calliP C0 nd_C [] rfl (sb_E_C) (runS C0 (m_C_byRule l K ad h (x1 / 4) x4 z61) 2 ⟨t_988, t_989, t_85, t_990⟩ cd_C_byRule (by decide) (sb_E_C) nd_E rfl rfl (Nat.le_of_ble_eq_true rfl) d_C_strokesByRules_61) ?_
      refine g_istore_n C0 [(3, .int v61), (6, .int x3), (2, .int v49), (0, .ref (ad 0)), (1, .int x1), (4, .int x4), (5, .int x5)] d_C_strokesByRules_64 rfl (by decide) rfl ?_
      refine g_iload_n C0 4 d_C_strokesByRules_65 rfl rfl ?_
      refine g_iconst C0 (v := 4) d_C_strokesByRules_66 (by decide) ?_
      refine g_irem C0 d_C_strokesByRules_67 (by decide) ?_
      refine g_iload C0 1 d_C_strokesByRules_68 rfl ?_
      obtain ⟨v70, z70, hE⟩ := bd_some hE
      refine g_calliP C0 nd_C [] rfl (sb_E_C) (runS C0 (m_C_byRule l K ad h (rm32 x1 4) x3 z70) 2 ⟨t_988, t_989, t_85, t_990⟩ cd_C_byRule (by decide) (sb_E_C) nd_E rfl rfl (Nat.le_of_ble_eq_true rfl) d_C_strokesByRules_70) ?_
      refine g_istore C0 [(4, .int v70), (3, .int v61), (6, .int x3), (2, .int v49), (0, .ref (ad 0)), (1, .int x1), (5, .int x5)] d_C_strokesByRules_73 (by decide) rfl ?_
      obtain ⟨v75, e75, hE⟩ := nm_some hE
      refine g_iinc C0 6 [(5, .int v75), (4, .int v70), (3, .int v61), (6, .int x3), (2, .int v49), (0, .ref (ad 0)), (1, .int x1)] d_C_strokesByRules_75 rfl (by rw [e75]; rfl) (by decide) rfl ?_
      refine g_goto C0 (tgt := 13) d_C_strokesByRules_78 (by decide) ?_
      refine g_sub [5, 6, 4, 2, 1, 0] (L' := [(0, .ref (ad 0)), (1, .int x1), (2, .int v49), (3, .int v61), (4, .int v70), (5, .int v75)]) rfl ?_
      exact hk1 _ (Option.some.inj hE).symm
    · replace hE := hB.2 c_
      refine g_iload C0 5 d_C_strokesByRules_35 rfl ?_
      have hq := hk2 _ (Option.some.inj hE).symm
      rw [hq]
      exact g_iret C0 hr d_C_strokesByRules_37
theorem w_C_strokesByRules {p : Program} {l : Launch} {e : Env} {s : State} {m : MethodId} {args : Array Value} {below : List Frame} {meth : Method} {c : Code} {K : KT} {A : Nat → Prop} (C0 : Cx p s m args meth c prog_1_method_52_code "CanoeSides" 7 K A) (hr : meth.sig.returnType = (Option.some Jvm.ClassFile.FieldType.int)) {ad : Nat → Nat} (N : Nat) (a0 : Int32) (h : Hp) {res : Int32} (hE : K_C_strokesByRules N a0 h = some res) : G p l e rm_C_strokesByRules s m args below meth c K A WC 7 0 0 (QI s args below K A WC 0 0 ad res h) 0 [(0, .ref (ad 0)), (1, .int a0)] [] ad h := by
  unfold K_C_strokesByRules at hE
  refine g_aload_n C0 0 d_C_strokesByRules_0 rfl rfl ?_
  obtain ⟨v1, z1, hE⟩ := bd_some hE
  refine g_calliP C0 nd_C [0, 2, 10, 11, 12, 15, 16, 17, 20, 21, 22, 25, 26, 27, 30, 33, 35, 36, 40, 41, 42, 43, 45, 46, 47, 48, 49, 55, 56, 60, 61, 62, 63, 64] rfl (sbW_self WC) (runV C0 (m_C_moment l K ad h z1) 0 rfl ⟨t_764, t_766, t_20, t_85, t_767⟩ cd_C_moment (by decide) 0 rfl rfl (sbW_self WC) nd_C rfl rfl (Nat.le_of_ble_eq_true rfl) d_C_strokesByRules_1) ?_
  refine g_istore_n C0 [(2, .int v1), (0, .ref (ad 0)), (1, .int a0)] d_C_strokesByRules_4 rfl (by decide) rfl ?_
  refine g_iconst C0 (v := 0) d_C_strokesByRules_5 (by decide) ?_
  refine g_istore_n C0 [(3, .int 0), (2, .int v1), (0, .ref (ad 0)), (1, .int a0)] d_C_strokesByRules_6 rfl (by decide) rfl ?_
  refine g_iconst C0 (v := 0) d_C_strokesByRules_7 (by decide) ?_
  refine g_istore C0 [(4, .int 0), (3, .int 0), (2, .int v1), (0, .ref (ad 0)), (1, .int a0)] d_C_strokesByRules_8 (by decide) rfl ?_
  refine g_iconst C0 (v := 0) d_C_strokesByRules_10 (by decide) ?_
  refine g_istore C0 [(5, .int 0), (4, .int 0), (3, .int 0), (2, .int v1), (0, .ref (ad 0)), (1, .int a0)] d_C_strokesByRules_11 (by decide) rfl ?_
  refine g_sub [4, 5, 3, 2, 1, 0] (L' := [(0, .ref (ad 0)), (1, .int a0), (2, .int v1), (3, .int 0), (4, .int 0), (5, .int 0)]) rfl ?_
  obtain ⟨t13, z13, hE⟩ := bd_some hE
  refine loopG (fun z_ : Int32 × Int32 × Int32 × Int32 => K_C_strokesByRules_L13 N a0 z_.1 z_.2.1 z_.2.2.1 z_.2.2.2 h) (fun z_ : Int32 × Int32 × Int32 × Int32 => G p l e rm_C_strokesByRules s m args below meth c K A WC 7 0 0 _ 13 [(0, .ref (ad 0)), (1, .int a0), (2, .int z_.1), (3, .int z_.2.1), (4, .int z_.2.2.1), (5, .int z_.2.2.2)] [] ad h) (fun z_ : (Int32) ⊕ (Unit) => (∀ r_, z_ = .inl r_ → _ = (QI s args below K A WC 0 0 ad r_ h)) ∧ (∀ y_, z_ = .inr y_ → G p l e rm_C_strokesByRules s m args below meth c K A WC 7 0 0 _ 81 [] [] ad h)) (fun z_ x_ hz k1 k2 => w_C_strokesByRules_L13 C0 hr N a0 z_.1 z_.2.1 z_.2.2.1 z_.2.2.2 h hz k1 (fun r_ hr_ => (k2 _ hr_).1 _ rfl) (fun y_ hy_ => (k2 _ hy_).2 _ rfl)) _ _ _ z13 ?_
  refine ⟨fun r_ e_ => ?_, fun t13x e_ => ?_⟩
  · subst e_
    replace hE := el_inl hE
    exact Option.some.inj hE ▸ rfl
  · subst e_
    replace hE := el_inr hE
    try dsimp only
    refine g_iconst C0 (v := (-1)) d_C_strokesByRules_81 (by decide) ?_
    obtain rfl := Option.some.inj hE
    exact g_iret C0 hr d_C_strokesByRules_82
theorem m_C_strokesByRules (l : Launch) (K : KT) (ad : Nat → Nat) (h : Hp) (N : Nat) (a0 : Int32) {res : Int32} (hE : K_C_strokesByRules N a0 h = some res) : ConI l y_C_strokesByRules prog_1_method_52_code 7 (Option.some Jvm.ClassFile.FieldType.int) rm_C_strokesByRules K WC ad h [.ref (ad 0), .int a0] res h := fun sz =>
  con_start [(0, .ref (ad 0)), (1, .int a0)] (by decide +kernel) rfl (Nat.le_of_ble_eq_true rfl) (fun p e s m args below meth c C0 hr hnm hsz => w_C_strokesByRules C0 hr N a0 h hE)
abbrev y_C_rules : MethodName := ⟨"CanoeSides", "rules", "(I)I"⟩
abbrev rm_C_rules : Room := { frames := 4, cells := 0, slots := 0, locals := 99 }
theorem cd_C_rules : cwd y_C_rules 1 := by decide +kernel
theorem d_C_rules_0 : decode prog_1_method_23_code 0 = .ok (.iload_n 1, 1) := by decide +kernel
theorem d_C_rules_1 : decode prog_1_method_23_code 1 = .ok (.iconst 0, 1) := by decide +kernel
theorem d_C_rules_2 : decode prog_1_method_23_code 2 = .ok (.iconst 2, 1) := by decide +kernel
theorem d_C_rules_3 : decode prog_1_method_23_code 3 = .ok (.invokestatic 96, 3) := by decide +kernel
theorem d_C_rules_6 : decode prog_1_method_23_code 6 = .ok (.ifCond .eq 6, 3) := by decide +kernel
theorem d_C_rules_9 : decode prog_1_method_23_code 9 = .ok (.ldc 100, 2) := by decide +kernel
theorem d_C_rules_11 : decode prog_1_method_23_code 11 = .ok (.ireturn, 1) := by decide +kernel
theorem d_C_rules_12 : decode prog_1_method_23_code 12 = .ok (.aload_n 0, 1) := by decide +kernel
theorem d_C_rules_13 : decode prog_1_method_23_code 13 = .ok (.invokevirtual 143, 3) := by decide +kernel
theorem d_C_rules_16 : decode prog_1_method_23_code 16 = .ok (.ifCond .eq 6, 3) := by decide +kernel
theorem d_C_rules_19 : decode prog_1_method_23_code 19 = .ok (.ldc 147, 2) := by decide +kernel
theorem d_C_rules_21 : decode prog_1_method_23_code 21 = .ok (.ireturn, 1) := by decide +kernel
theorem d_C_rules_22 : decode prog_1_method_23_code 22 = .ok (.iconst (-1), 1) := by decide +kernel
theorem d_C_rules_23 : decode prog_1_method_23_code 23 = .ok (.istore_n 2, 1) := by decide +kernel
theorem d_C_rules_24 : decode prog_1_method_23_code 24 = .ok (.iconst (-1), 1) := by decide +kernel
theorem d_C_rules_25 : decode prog_1_method_23_code 25 = .ok (.istore_n 3, 1) := by decide +kernel
theorem d_C_rules_26 : decode prog_1_method_23_code 26 = .ok (.iconst 0, 1) := by decide +kernel
theorem d_C_rules_27 : decode prog_1_method_23_code 27 = .ok (.istore 4, 2) := by decide +kernel
theorem d_C_rules_29 : decode prog_1_method_23_code 29 = .ok (.iload 4, 2) := by decide +kernel
theorem d_C_rules_31 : decode prog_1_method_23_code 31 = .ok (.bipush 16, 2) := by decide +kernel
theorem d_C_rules_33 : decode prog_1_method_23_code 33 = .ok (.if_icmp .ge 40, 3) := by decide +kernel
theorem d_C_rules_36 : decode prog_1_method_23_code 36 = .ok (.aload_n 0, 1) := by decide +kernel
theorem d_C_rules_37 : decode prog_1_method_23_code 37 = .ok (.iload 4, 2) := by decide +kernel
theorem d_C_rules_39 : decode prog_1_method_23_code 39 = .ok (.invokevirtual 238, 3) := by decide +kernel
theorem d_C_rules_42 : decode prog_1_method_23_code 42 = .ok (.istore 5, 2) := by decide +kernel
theorem d_C_rules_44 : decode prog_1_method_23_code 44 = .ok (.iload 5, 2) := by decide +kernel
theorem d_C_rules_46 : decode prog_1_method_23_code 46 = .ok (.iconst (-1), 1) := by decide +kernel
theorem d_C_rules_47 : decode prog_1_method_23_code 47 = .ok (.if_icmp .eq 20, 3) := by decide +kernel
theorem d_C_rules_50 : decode prog_1_method_23_code 50 = .ok (.iload_n 2, 1) := by decide +kernel
theorem d_C_rules_51 : decode prog_1_method_23_code 51 = .ok (.iconst (-1), 1) := by decide +kernel
theorem d_C_rules_52 : decode prog_1_method_23_code 52 = .ok (.if_icmp .eq 9, 3) := by decide +kernel
theorem d_C_rules_55 : decode prog_1_method_23_code 55 = .ok (.iload 5, 2) := by decide +kernel
theorem d_C_rules_57 : decode prog_1_method_23_code 57 = .ok (.iload_n 2, 1) := by decide +kernel
theorem d_C_rules_58 : decode prog_1_method_23_code 58 = .ok (.if_icmp .ge 9, 3) := by decide +kernel
theorem d_C_rules_61 : decode prog_1_method_23_code 61 = .ok (.iload 5, 2) := by decide +kernel
theorem d_C_rules_63 : decode prog_1_method_23_code 63 = .ok (.istore_n 2, 1) := by decide +kernel
theorem d_C_rules_64 : decode prog_1_method_23_code 64 = .ok (.iload 4, 2) := by decide +kernel
theorem d_C_rules_66 : decode prog_1_method_23_code 66 = .ok (.istore_n 3, 1) := by decide +kernel
theorem d_C_rules_67 : decode prog_1_method_23_code 67 = .ok (.iinc 4 1, 3) := by decide +kernel
theorem d_C_rules_70 : decode prog_1_method_23_code 70 = .ok (.goto (-41), 3) := by decide +kernel
theorem d_C_rules_73 : decode prog_1_method_23_code 73 = .ok (.iload_n 2, 1) := by decide +kernel
theorem d_C_rules_74 : decode prog_1_method_23_code 74 = .ok (.iconst (-1), 1) := by decide +kernel
theorem d_C_rules_75 : decode prog_1_method_23_code 75 = .ok (.if_icmp .ne 5, 3) := by decide +kernel
theorem d_C_rules_78 : decode prog_1_method_23_code 78 = .ok (.iconst (-1), 1) := by decide +kernel
theorem d_C_rules_79 : decode prog_1_method_23_code 79 = .ok (.ireturn, 1) := by decide +kernel
theorem d_C_rules_80 : decode prog_1_method_23_code 80 = .ok (.iload_n 1, 1) := by decide +kernel
theorem d_C_rules_81 : decode prog_1_method_23_code 81 = .ok (.ifCond .ne 7, 3) := by decide +kernel
theorem d_C_rules_84 : decode prog_1_method_23_code 84 = .ok (.iload_n 2, 1) := by decide +kernel
theorem d_C_rules_85 : decode prog_1_method_23_code 85 = .ok (.goto 17, 3) := by decide +kernel
theorem d_C_rules_88 : decode prog_1_method_23_code 88 = .ok (.iload_n 1, 1) := by decide +kernel
theorem d_C_rules_89 : decode prog_1_method_23_code 89 = .ok (.iconst 1, 1) := by decide +kernel
theorem d_C_rules_90 : decode prog_1_method_23_code 90 = .ok (.if_icmp .ne 9, 3) := by decide +kernel
theorem d_C_rules_93 : decode prog_1_method_23_code 93 = .ok (.iload_n 3, 1) := by decide +kernel
theorem d_C_rules_94 : decode prog_1_method_23_code 94 = .ok (.iconst 4, 1) := by decide +kernel
theorem d_C_rules_95 : decode prog_1_method_23_code 95 = .ok (.idiv, 1) := by decide +kernel
theorem d_C_rules_96 : decode prog_1_method_23_code 96 = .ok (.goto 6, 3) := by decide +kernel
theorem d_C_rules_99 : decode prog_1_method_23_code 99 = .ok (.iload_n 3, 1) := by decide +kernel
theorem d_C_rules_100 : decode prog_1_method_23_code 100 = .ok (.iconst 4, 1) := by decide +kernel
theorem d_C_rules_101 : decode prog_1_method_23_code 101 = .ok (.irem, 1) := by decide +kernel
theorem d_C_rules_102 : decode prog_1_method_23_code 102 = .ok (.ireturn, 1) := by decide +kernel
theorem w_C_rules_J61 {p : Program} {l : Launch} {e : Env} {s : State} {m : MethodId} {args : Array Value} {below : List Frame} {meth : Method} {c : Code} {K : KT} {A : Nat → Prop} {Q : State → Prop} (C0 : Cx p s m args meth c prog_1_method_23_code "CanoeSides" 6 K A) (hr : meth.sig.returnType = (Option.some Jvm.ClassFile.FieldType.int)) {ad : Nat → Nat} (N : Nat) (x1 : Int32) (x4 : Int32) (x5 : Int32) (h : Hp) {x_ : (Int32 × Int32 × Int32) ⊕ (Int32 × Int32)} (hE : K_C_rules_J61 N x1 x4 x5 h = some x_) (hk1 : ∀ z_, x_ = .inl z_ → G p l e rm_C_rules s m args below meth c K A WC 6 0 0 Q 29 [(0, .ref (ad 0)), (1, .int x1), (2, .int z_.1), (3, .int z_.2.1), (4, .int z_.2.2)] [] ad h) (hk3 : ∀ z_, x_ = .inr z_ → G p l e rm_C_rules s m args below meth c K A WC 6 0 0 Q 73 [(1, .int x1), (2, .int z_.1), (3, .int z_.2)] [] ad h) : G p l e rm_C_rules s m args below meth c K A WC 6 0 0 Q 61 [(0, .ref (ad 0)), (1, .int x1), (4, .int x4), (5, .int x5)] [] ad h := by
  unfold K_C_rules_J61 at hE
  refine g_iload C0 3 d_C_rules_61 rfl ?_
  refine g_istore_n C0 [(2, .int x5), (0, .ref (ad 0)), (1, .int x1), (4, .int x4), (5, .int x5)] d_C_rules_63 rfl (by decide) rfl ?_
  refine g_iload C0 3 d_C_rules_64 rfl ?_
  refine g_istore_n C0 [(3, .int x4), (2, .int x5), (0, .ref (ad 0)), (1, .int x1), (4, .int x4), (5, .int x5)] d_C_rules_66 rfl (by decide) rfl ?_
  obtain ⟨v67, e67, hE⟩ := nm_some hE
  refine g_iinc C0 4 [(4, .int v67), (3, .int x4), (2, .int x5), (0, .ref (ad 0)), (1, .int x1), (5, .int x5)] d_C_rules_67 rfl (by rw [e67]; rfl) (by decide) rfl ?_
  refine g_goto C0 (tgt := 29) d_C_rules_70 (by decide) ?_
  refine g_sub [3, 4, 2, 1, 0] (L' := [(0, .ref (ad 0)), (1, .int x1), (2, .int x5), (3, .int x4), (4, .int v67)]) rfl ?_
  exact hk1 _ (Option.some.inj hE).symm
theorem w_C_rules_L29 {p : Program} {l : Launch} {e : Env} {s : State} {m : MethodId} {args : Array Value} {below : List Frame} {meth : Method} {c : Code} {K : KT} {A : Nat → Prop} {Q : State → Prop} (C0 : Cx p s m args meth c prog_1_method_23_code "CanoeSides" 6 K A) (hr : meth.sig.returnType = (Option.some Jvm.ClassFile.FieldType.int)) {ad : Nat → Nat} (N : Nat) (x1 : Int32) (x2 : Int32) (x3 : Int32) (x4 : Int32) (h : Hp) {x_ : (Int32 × Int32 × Int32) ⊕ (Int32 × Int32)} (hE : K_C_rules_L29 N x1 x2 x3 x4 h = some x_) (hk1 : ∀ z_, x_ = .inl z_ → G p l e rm_C_rules s m args below meth c K A WC 6 0 0 Q 29 [(0, .ref (ad 0)), (1, .int x1), (2, .int z_.1), (3, .int z_.2.1), (4, .int z_.2.2)] [] ad h) (hk3 : ∀ z_, x_ = .inr z_ → G p l e rm_C_rules s m args below meth c K A WC 6 0 0 Q 73 [(1, .int x1), (2, .int z_.1), (3, .int z_.2)] [] ad h) : G p l e rm_C_rules s m args below meth c K A WC 6 0 0 Q 29 [(0, .ref (ad 0)), (1, .int x1), (2, .int x2), (3, .int x3), (4, .int x4)] [] ad h := by
  unfold K_C_rules_L29 at hE
  refine g_iload C0 4 d_C_rules_29 rfl ?_
  refine g_bipush C0 (v := 16) d_C_rules_31 (by decide) ?_
  have hB := ite_some hE
  refine g_icmp_ge C0 (tgt := 73) d_C_rules_33 (by decide) (fun c_ => ?_) (fun c_ => ?_)
  · replace hE := hB.1 c_
    refine g_sub [1, 2, 3] (L' := [(1, .int x1), (2, .int x2), (3, .int x3)]) rfl ?_
    exact hk3 _ (Option.some.inj hE).symm
  · replace hE := hB.2 c_
    refine g_aload_n C0 0 d_C_rules_36 rfl rfl ?_
    refine g_iload C0 4 d_C_rules_37 rfl ?_
    obtain ⟨v39, z39, hE⟩ := bd_some hE
    refine g_calliP C0 nd_C [0, 2, 10, 11, 12, 15, 16, 17, 20, 21, 22, 25, 26, 27, 30, 33, 35, 36, 40, 41, 42, 43, 45, 46, 47, 48, 49, 55, 56, 60, 61, 62, 63, 64] rfl (sbW_self WC) (runV C0 (m_C_strokesByRules l K ad h N x4 z39) 1 rfl ⟨t_984, t_986, t_37, t_85, t_987⟩ cd_C_strokesByRules (by decide) 0 rfl rfl (sbW_self WC) nd_C rfl rfl (Nat.le_of_ble_eq_true rfl) d_C_rules_39) ?_
    refine g_istore C0 [(5, .int v39), (0, .ref (ad 0)), (1, .int x1), (2, .int x2), (3, .int x3), (4, .int x4)] d_C_rules_42 (by decide) rfl ?_
    refine g_iload C0 0 d_C_rules_44 rfl ?_
    refine g_iconst C0 (v := (-1)) d_C_rules_46 (by decide) ?_
    have hB := ite_some hE
    refine g_icmp_eq C0 (tgt := 67) d_C_rules_47 (by decide) (fun c_ => ?_) (fun c_ => ?_)
    · replace hE := hB.1 c_
      obtain ⟨v67, e67, hE⟩ := nm_some hE
      refine g_iinc C0 5 [(4, .int v67), (5, .int v39), (0, .ref (ad 0)), (1, .int x1), (2, .int x2), (3, .int x3)] d_C_rules_67 rfl (by rw [e67]; rfl) (by decide) rfl ?_
      refine g_goto C0 (tgt := 29) d_C_rules_70 (by decide) ?_
      refine g_sub [2, 3, 4, 5, 0] (L' := [(0, .ref (ad 0)), (1, .int x1), (2, .int x2), (3, .int x3), (4, .int v67)]) rfl ?_
      exact hk1 _ (Option.some.inj hE).symm
    · replace hE := hB.2 c_
      refine g_iload_n C0 3 d_C_rules_50 rfl rfl ?_
      refine g_iconst C0 (v := (-1)) d_C_rules_51 (by decide) ?_
      have hB := ite_some hE
      refine g_icmp_eq C0 (tgt := 61) d_C_rules_52 (by decide) (fun c_ => ?_) (fun c_ => ?_)
      · replace hE := hB.1 c_
        refine g_sub [1, 2, 5, 0] (L' := [(0, .ref (ad 0)), (1, .int x1), (4, .int x4), (5, .int v39)]) rfl ?_
        exact w_C_rules_J61 C0 hr N x1 x4 v39 h hE hk1 hk3
      · replace hE := hB.2 c_
        refine g_iload C0 0 d_C_rules_55 rfl ?_
        refine g_iload_n C0 3 d_C_rules_57 rfl rfl ?_
        have hB := ite_some hE
        refine g_icmp_ge C0 (tgt := 67) d_C_rules_58 (by decide) (fun c_ => ?_) (fun c_ => ?_)
        · replace hE := hB.1 c_
          obtain ⟨v67, e67, hE⟩ := nm_some hE
          refine g_iinc C0 5 [(4, .int v67), (5, .int v39), (0, .ref (ad 0)), (1, .int x1), (2, .int x2), (3, .int x3)] d_C_rules_67 rfl (by rw [e67]; rfl) (by decide) rfl ?_
          refine g_goto C0 (tgt := 29) d_C_rules_70 (by decide) ?_
          refine g_sub [2, 3, 4, 5, 0] (L' := [(0, .ref (ad 0)), (1, .int x1), (2, .int x2), (3, .int x3), (4, .int v67)]) rfl ?_
          exact hk1 _ (Option.some.inj hE).symm
        · replace hE := hB.2 c_
          refine g_sub [1, 2, 5, 0] (L' := [(0, .ref (ad 0)), (1, .int x1), (4, .int x4), (5, .int v39)]) rfl ?_
          exact w_C_rules_J61 C0 hr N x1 x4 v39 h hE hk1 hk3
theorem w_C_rules {p : Program} {l : Launch} {e : Env} {s : State} {m : MethodId} {args : Array Value} {below : List Frame} {meth : Method} {c : Code} {K : KT} {A : Nat → Prop} (C0 : Cx p s m args meth c prog_1_method_23_code "CanoeSides" 6 K A) (hr : meth.sig.returnType = (Option.some Jvm.ClassFile.FieldType.int)) {ad : Nat → Nat} (N : Nat) (a0 : Int32) (h : Hp) {res : Int32} (hE : K_C_rules N a0 h = some res) : G p l e rm_C_rules s m args below meth c K A WC 6 0 0 (QI s args below K A WC 0 0 ad res h) 0 [(0, .ref (ad 0)), (1, .int a0)] [] ad h := by
  unfold K_C_rules at hE
  refine g_iload_n C0 1 d_C_rules_0 rfl rfl ?_
  refine g_iconst C0 (v := 0) d_C_rules_1 (by decide) ?_
  refine g_iconst C0 (v := 2) d_C_rules_2 (by decide) ?_
  obtain ⟨v3, z3, hE⟩ := bd_some hE
  refine g_calliP C0 nd_C [] rfl (sb_E_C) (runS C0 (m_C_isOutside l K ad h a0 0 2 z3) 3 ⟨t_499, t_500, t_85, t_501⟩ cd_C_isOutside (by decide) (sb_E_C) nd_E rfl rfl (Nat.le_of_ble_eq_true rfl) d_C_rules_3) ?_
  have hB := ite_some hE
  refine g_if_eq C0 (tgt := 12) d_C_rules_6 (by decide) (fun c_ => ?_) (fun c_ => ?_)
  · replace hE := hB.1 c_
    refine g_aload_n C0 0 d_C_rules_12 rfl rfl ?_
    obtain ⟨v13, z13, hE⟩ := bd_some hE
    refine g_calliP C0 nd_C [0, 2, 10, 11, 12, 15, 16, 17, 20, 21, 22, 25, 26, 27, 30, 33, 35, 36, 40, 41, 42, 43, 45, 46, 47, 48, 49, 55, 56, 60, 61, 62, 63, 64] rfl (sbW_self WC) (runV C0 (m_C_noSquares l K ad h z13) 0 rfl ⟨t_755, t_757, t_18, t_85, t_758⟩ cd_C_noSquares (by decide) 0 rfl rfl (sbW_self WC) nd_C rfl rfl (Nat.le_of_ble_eq_true rfl) d_C_rules_13) ?_
    have hB := ite_some hE
    refine g_if_eq C0 (tgt := 22) d_C_rules_16 (by decide) (fun c_ => ?_) (fun c_ => ?_)
    · replace hE := hB.1 c_
      refine g_iconst C0 (v := (-1)) d_C_rules_22 (by decide) ?_
      refine g_istore_n C0 [(2, .int (-1)), (0, .ref (ad 0)), (1, .int a0)] d_C_rules_23 rfl (by decide) rfl ?_
      refine g_iconst C0 (v := (-1)) d_C_rules_24 (by decide) ?_
      refine g_istore_n C0 [(3, .int (-1)), (2, .int (-1)), (0, .ref (ad 0)), (1, .int a0)] d_C_rules_25 rfl (by decide) rfl ?_
      refine g_iconst C0 (v := 0) d_C_rules_26 (by decide) ?_
      refine g_istore C0 [(4, .int 0), (3, .int (-1)), (2, .int (-1)), (0, .ref (ad 0)), (1, .int a0)] d_C_rules_27 (by decide) rfl ?_
      refine g_sub [3, 4, 2, 1, 0] (L' := [(0, .ref (ad 0)), (1, .int a0), (2, .int (-1)), (3, .int (-1)), (4, .int 0)]) rfl ?_
      obtain ⟨t29, z29, hE⟩ := bd_some hE
      refine loopG (fun z_ : Int32 × Int32 × Int32 => K_C_rules_L29 N a0 z_.1 z_.2.1 z_.2.2 h) (fun z_ : Int32 × Int32 × Int32 => G p l e rm_C_rules s m args below meth c K A WC 6 0 0 _ 29 [(0, .ref (ad 0)), (1, .int a0), (2, .int z_.1), (3, .int z_.2.1), (4, .int z_.2.2)] [] ad h) (fun z_ : Int32 × Int32 => G p l e rm_C_rules s m args below meth c K A WC 6 0 0 _ 73 [(1, .int a0), (2, .int z_.1), (3, .int z_.2)] [] ad h) (fun z_ x_ hz k1 k2 => w_C_rules_L29 C0 hr N a0 z_.1 z_.2.1 z_.2.2 h hz k1 k2) _ _ _ z29 ?_
      try dsimp only
      refine g_iload_n C0 1 d_C_rules_73 rfl rfl ?_
      refine g_iconst C0 (v := (-1)) d_C_rules_74 (by decide) ?_
      have hB := ite_some hE
      refine g_icmp_ne C0 (tgt := 80) d_C_rules_75 (by decide) (fun c_ => ?_) (fun c_ => ?_)
      · replace hE := hB.2 c_
        refine g_iload_n C0 0 d_C_rules_80 rfl rfl ?_
        have hB := ite_some hE
        refine g_if_ne C0 (tgt := 88) d_C_rules_81 (by decide) (fun c_ => ?_) (fun c_ => ?_)
        · replace hE := hB.2 c_
          refine g_iload_n C0 0 d_C_rules_88 rfl rfl ?_
          refine g_iconst C0 (v := 1) d_C_rules_89 (by decide) ?_
          have hB := ite_some hE
          refine g_icmp_ne C0 (tgt := 99) d_C_rules_90 (by decide) (fun c_ => ?_) (fun c_ => ?_)
          · replace hE := hB.2 c_
            refine g_iload_n C0 2 d_C_rules_99 rfl rfl ?_
            refine g_iconst C0 (v := 4) d_C_rules_100 (by decide) ?_
            refine g_irem C0 d_C_rules_101 (by decide) ?_
            obtain rfl := Option.some.inj hE
            exact g_iret C0 hr d_C_rules_102
          · replace hE := hB.1 c_
            refine g_iload_n C0 2 d_C_rules_93 rfl rfl ?_
            refine g_iconst C0 (v := 4) d_C_rules_94 (by decide) ?_
            refine g_idiv C0 d_C_rules_95 (by decide) ?_
            refine g_goto C0 (tgt := 102) d_C_rules_96 (by decide) ?_
            obtain rfl := Option.some.inj hE
            exact g_iret C0 hr d_C_rules_102
        · replace hE := hB.1 c_
          refine g_iload_n C0 1 d_C_rules_84 rfl rfl ?_
          refine g_goto C0 (tgt := 102) d_C_rules_85 (by decide) ?_
          obtain rfl := Option.some.inj hE
          exact g_iret C0 hr d_C_rules_102
      · replace hE := hB.1 c_
        refine g_iconst C0 (v := (-1)) d_C_rules_78 (by decide) ?_
        obtain rfl := Option.some.inj hE
        exact g_iret C0 hr d_C_rules_79
    · replace hE := hB.2 c_
      refine g_ldc C0 (v := (-1000000003)) t_759 d_C_rules_19 ?_
      obtain rfl := Option.some.inj hE
      exact g_iret C0 hr d_C_rules_21
  · replace hE := hB.2 c_
    refine g_ldc C0 (v := (-1000000002)) t_502 d_C_rules_9 ?_
    obtain rfl := Option.some.inj hE
    exact g_iret C0 hr d_C_rules_11
theorem m_C_rules (l : Launch) (K : KT) (ad : Nat → Nat) (h : Hp) (N : Nat) (a0 : Int32) {res : Int32} (hE : K_C_rules N a0 h = some res) : ConI l y_C_rules prog_1_method_23_code 6 (Option.some Jvm.ClassFile.FieldType.int) rm_C_rules K WC ad h [.ref (ad 0), .int a0] res h := fun sz =>
  con_start [(0, .ref (ad 0)), (1, .int a0)] (by decide +kernel) rfl (Nat.le_of_ble_eq_true rfl) (fun p e s m args below meth c C0 hr hnm hsz => w_C_rules C0 hr N a0 h hE)
abbrev y_C_line : MethodName := ⟨"CanoeSides", "line", "(II)I"⟩
abbrev rm_C_line : Room := { frames := 1, cells := 0, slots := 0, locals := 22 }
theorem cd_C_line : cwd y_C_line 2 := by decide +kernel
theorem d_C_line_0 : decode prog_1_method_24_code 0 = .ok (.aload_n 0, 1) := by decide +kernel
theorem d_C_line_1 : decode prog_1_method_24_code 1 = .ok (.getfield 23, 3) := by decide +kernel
theorem d_C_line_4 : decode prog_1_method_24_code 4 = .ok (.iload_n 1, 1) := by decide +kernel
theorem d_C_line_5 : decode prog_1_method_24_code 5 = .ok (.iload_n 2, 1) := by decide +kernel
theorem d_C_line_6 : decode prog_1_method_24_code 6 = .ok (.invokevirtual 131, 3) := by decide +kernel
theorem d_C_line_9 : decode prog_1_method_24_code 9 = .ok (.ifCond .ne 6, 3) := by decide +kernel
theorem d_C_line_12 : decode prog_1_method_24_code 12 = .ok (.ldc 138, 2) := by decide +kernel
theorem d_C_line_14 : decode prog_1_method_24_code 14 = .ok (.ireturn, 1) := by decide +kernel
theorem d_C_line_15 : decode prog_1_method_24_code 15 = .ok (.aload_n 0, 1) := by decide +kernel
theorem d_C_line_16 : decode prog_1_method_24_code 16 = .ok (.getfield 67, 3) := by decide +kernel
theorem d_C_line_19 : decode prog_1_method_24_code 19 = .ok (.iload_n 2, 1) := by decide +kernel
theorem d_C_line_20 : decode prog_1_method_24_code 20 = .ok (.bipush 8, 2) := by decide +kernel
theorem d_C_line_22 : decode prog_1_method_24_code 22 = .ok (.imul, 1) := by decide +kernel
theorem d_C_line_23 : decode prog_1_method_24_code 23 = .ok (.iload_n 1, 1) := by decide +kernel
theorem d_C_line_24 : decode prog_1_method_24_code 24 = .ok (.iadd, 1) := by decide +kernel
theorem d_C_line_25 : decode prog_1_method_24_code 25 = .ok (.invokevirtual 241, 3) := by decide +kernel
theorem d_C_line_28 : decode prog_1_method_24_code 28 = .ok (.ifCond .eq 13, 3) := by decide +kernel
theorem d_C_line_31 : decode prog_1_method_24_code 31 = .ok (.aload_n 0, 1) := by decide +kernel
theorem d_C_line_32 : decode prog_1_method_24_code 32 = .ok (.getfield 67, 3) := by decide +kernel
theorem d_C_line_35 : decode prog_1_method_24_code 35 = .ok (.getfield 245, 3) := by decide +kernel
theorem d_C_line_38 : decode prog_1_method_24_code 38 = .ok (.goto 5, 3) := by decide +kernel
theorem d_C_line_41 : decode prog_1_method_24_code 41 = .ok (.ldc 101, 2) := by decide +kernel
theorem d_C_line_43 : decode prog_1_method_24_code 43 = .ok (.ireturn, 1) := by decide +kernel
theorem w_C_line {p : Program} {l : Launch} {e : Env} {s : State} {m : MethodId} {args : Array Value} {below : List Frame} {meth : Method} {c : Code} {K : KT} {A : Nat → Prop} (C0 : Cx p s m args meth c prog_1_method_24_code "CanoeSides" 3 K A) (hr : meth.sig.returnType = (Option.some Jvm.ClassFile.FieldType.int)) {ad : Nat → Nat} (a0 : Int32) (b0 : Int32) (h : Hp) {res : Int32 × Hp} (hE : K_C_line a0 b0 h = some res) : G p l e rm_C_line s m args below meth c K A WC 3 0 0 (QI s args below K A WC 0 0 ad res.1 res.2) 0 [(0, .ref (ad 0)), (1, .int a0), (2, .int b0)] [] ad h := by
  unfold K_C_line at hE
  refine g_aload_n C0 0 d_C_line_0 rfl rfl ?_
  refine g_getr C0 CK_10 3 (by decide) t_455 0 rfl rfl d_C_line_1 ?_
  refine g_iload_n C0 1 d_C_line_4 rfl rfl ?_
  refine g_iload_n C0 2 d_C_line_5 rfl rfl ?_
  obtain ⟨v6, z6, hE⟩ := bd_some hE
  refine g_calliP C0 nd_C [10, 11, 12] rfl (sb_River_C) (runV C0 (m_River_has l K ad h a0 b0 z6) 2 rfl ⟨t_737, t_738, t_739, t_86, t_740⟩ cd_River_has (by decide) 2 rfl rfl (sb_River_C) nd_River rfl rfl (Nat.le_of_ble_eq_true rfl) d_C_line_6) ?_
  have hB := ite_some hE
  refine g_if_ne C0 (tgt := 15) d_C_line_9 (by decide) (fun c_ => ?_) (fun c_ => ?_)
  · replace hE := hB.2 c_
    refine g_aload_n C0 0 d_C_line_15 rfl rfl ?_
    refine g_getr C0 CK_10 10 (by decide) t_462 0 rfl rfl d_C_line_16 ?_
    refine g_iload_n C0 2 d_C_line_19 rfl rfl ?_
    refine g_bipush C0 (v := 8) d_C_line_20 (by decide) ?_
    refine g_imul C0 d_C_line_22 ?_
    refine g_iload_n C0 1 d_C_line_23 rfl rfl ?_
    refine g_iadd C0 d_C_line_24 ?_
    obtain ⟨v25, h25, z25, hE⟩ := bd2_some hE
    refine g_calli C0 nd_C [60, 61, 62, 63, 64, 20, 21, 22, 15, 16, 17] rfl (sb_Lines_C) (runV C0 (m_Lines_addMark l K ad h ((b0 * 8) + a0) z25) 1 rfl ⟨t_995, t_996, t_997, t_92, t_998⟩ cd_Lines_addMark (by decide) 29 rfl rfl (sb_Lines_C) nd_Lines rfl rfl (Nat.le_of_ble_eq_true rfl) d_C_line_25) ?_
    obtain ⟨h25m, e25, hE⟩ := nm_some hE
    refine g_heap e25 ?_
    have hB := ite_some hE
    refine g_if_eq C0 (tgt := 41) d_C_line_28 (by decide) (fun c_ => ?_) (fun c_ => ?_)
    · replace hE := hB.1 c_
      refine g_ldc C0 (v := (-1000000004)) t_503 d_C_line_41 ?_
      obtain rfl := Option.some.inj hE
      exact g_iret C0 hr d_C_line_43
    · replace hE := hB.2 c_
      refine g_aload_n C0 0 d_C_line_31 rfl rfl ?_
      refine g_getr C0 CK_10 10 (by decide) t_462 0 rfl rfl d_C_line_32 ?_
      refine g_getiN C0 CK_4 4 (by decide) t_276 29 rfl rfl d_C_line_35 ?_
      refine g_goto C0 (tgt := 43) d_C_line_38 (by decide) ?_
      obtain rfl := Option.some.inj hE
      exact g_iret C0 hr d_C_line_43
  · replace hE := hB.1 c_
    refine g_ldc C0 (v := (-1000000001)) t_742 d_C_line_12 ?_
    obtain rfl := Option.some.inj hE
    exact g_iret C0 hr d_C_line_14
theorem m_C_line (l : Launch) (K : KT) (ad : Nat → Nat) (h : Hp) (a0 : Int32) (b0 : Int32) {res : Int32 × Hp} (hE : K_C_line a0 b0 h = some res) : ConI l y_C_line prog_1_method_24_code 3 (Option.some Jvm.ClassFile.FieldType.int) rm_C_line K WC ad h [.ref (ad 0), .int a0, .int b0] res.1 res.2 := fun sz =>
  con_start [(0, .ref (ad 0)), (1, .int a0), (2, .int b0)] (by decide +kernel) rfl (Nat.le_of_ble_eq_true rfl) (fun p e s m args below meth c C0 hr hnm hsz => w_C_line C0 hr a0 b0 h hE)
abbrev y_C_fits : MethodName := ⟨"CanoeSides", "fits", "(I)I"⟩
abbrev rm_C_fits : Room := { frames := 5, cells := 0, slots := 0, locals := 122 }
theorem cd_C_fits : cwd y_C_fits 1 := by decide +kernel
theorem d_C_fits_0 : decode prog_1_method_25_code 0 = .ok (.aload_n 0, 1) := by decide +kernel
theorem d_C_fits_1 : decode prog_1_method_25_code 1 = .ok (.invokevirtual 143, 3) := by decide +kernel
theorem d_C_fits_4 : decode prog_1_method_25_code 4 = .ok (.ifCond .eq 6, 3) := by decide +kernel
theorem d_C_fits_7 : decode prog_1_method_25_code 7 = .ok (.ldc 147, 2) := by decide +kernel
theorem d_C_fits_9 : decode prog_1_method_25_code 9 = .ok (.ireturn, 1) := by decide +kernel
theorem d_C_fits_10 : decode prog_1_method_25_code 10 = .ok (.aload_n 0, 1) := by decide +kernel
theorem d_C_fits_11 : decode prog_1_method_25_code 11 = .ok (.getfield 67, 3) := by decide +kernel
theorem d_C_fits_14 : decode prog_1_method_25_code 14 = .ok (.aload_n 0, 1) := by decide +kernel
theorem d_C_fits_15 : decode prog_1_method_25_code 15 = .ok (.getfield 39, 3) := by decide +kernel
theorem d_C_fits_18 : decode prog_1_method_25_code 18 = .ok (.aload_n 0, 1) := by decide +kernel
theorem d_C_fits_19 : decode prog_1_method_25_code 19 = .ok (.invokevirtual 158, 3) := by decide +kernel
theorem d_C_fits_22 : decode prog_1_method_25_code 22 = .ok (.invokevirtual 248, 3) := by decide +kernel
theorem d_C_fits_25 : decode prog_1_method_25_code 25 = .ok (.iload_n 1, 1) := by decide +kernel
theorem d_C_fits_26 : decode prog_1_method_25_code 26 = .ok (.iconst (-1), 1) := by decide +kernel
theorem d_C_fits_27 : decode prog_1_method_25_code 27 = .ok (.if_icmp .ne 18, 3) := by decide +kernel
theorem d_C_fits_30 : decode prog_1_method_25_code 30 = .ok (.aload_n 0, 1) := by decide +kernel
theorem d_C_fits_31 : decode prog_1_method_25_code 31 = .ok (.getfield 67, 3) := by decide +kernel
theorem d_C_fits_34 : decode prog_1_method_25_code 34 = .ok (.iconst 0, 1) := by decide +kernel
theorem d_C_fits_35 : decode prog_1_method_25_code 35 = .ok (.aload_n 0, 1) := by decide +kernel
theorem d_C_fits_36 : decode prog_1_method_25_code 36 = .ok (.invokevirtual 158, 3) := by decide +kernel
theorem d_C_fits_39 : decode prog_1_method_25_code 39 = .ok (.invokevirtual 252, 3) := by decide +kernel
theorem d_C_fits_42 : decode prog_1_method_25_code 42 = .ok (.goto 19, 3) := by decide +kernel
theorem d_C_fits_45 : decode prog_1_method_25_code 45 = .ok (.aload_n 0, 1) := by decide +kernel
theorem d_C_fits_46 : decode prog_1_method_25_code 46 = .ok (.getfield 67, 3) := by decide +kernel
theorem d_C_fits_49 : decode prog_1_method_25_code 49 = .ok (.iload_n 1, 1) := by decide +kernel
theorem d_C_fits_50 : decode prog_1_method_25_code 50 = .ok (.aload_n 0, 1) := by decide +kernel
theorem d_C_fits_51 : decode prog_1_method_25_code 51 = .ok (.getfield 39, 3) := by decide +kernel
theorem d_C_fits_54 : decode prog_1_method_25_code 54 = .ok (.aload_n 0, 1) := by decide +kernel
theorem d_C_fits_55 : decode prog_1_method_25_code 55 = .ok (.invokevirtual 158, 3) := by decide +kernel
theorem d_C_fits_58 : decode prog_1_method_25_code 58 = .ok (.invokevirtual 255, 3) := by decide +kernel
theorem d_C_fits_61 : decode prog_1_method_25_code 61 = .ok (.ireturn, 1) := by decide +kernel
theorem w_C_fits {p : Program} {l : Launch} {e : Env} {s : State} {m : MethodId} {args : Array Value} {below : List Frame} {meth : Method} {c : Code} {K : KT} {A : Nat → Prop} (C0 : Cx p s m args meth c prog_1_method_25_code "CanoeSides" 2 K A) (hr : meth.sig.returnType = (Option.some Jvm.ClassFile.FieldType.int)) {ad : Nat → Nat} (N : Nat) (a0 : Int32) (h : Hp) {res : Int32 × Hp} (hE : K_C_fits N a0 h = some res) : G p l e rm_C_fits s m args below meth c K A WC 2 0 0 (QI s args below K A WC 0 0 ad res.1 res.2) 0 [(0, .ref (ad 0)), (1, .int a0)] [] ad h := by
  unfold K_C_fits at hE
  refine g_aload_n C0 0 d_C_fits_0 rfl rfl ?_
  obtain ⟨v1, z1, hE⟩ := bd_some hE
  refine g_calliP C0 nd_C [0, 2, 10, 11, 12, 15, 16, 17, 20, 21, 22, 25, 26, 27, 30, 33, 35, 36, 40, 41, 42, 43, 45, 46, 47, 48, 49, 55, 56, 60, 61, 62, 63, 64] rfl (sbW_self WC) (runV C0 (m_C_noSquares l K ad h z1) 0 rfl ⟨t_755, t_757, t_18, t_85, t_758⟩ cd_C_noSquares (by decide) 0 rfl rfl (sbW_self WC) nd_C rfl rfl (Nat.le_of_ble_eq_true rfl) d_C_fits_1) ?_
  have hB := ite_some hE
  refine g_if_eq C0 (tgt := 10) d_C_fits_4 (by decide) (fun c_ => ?_) (fun c_ => ?_)
  · replace hE := hB.1 c_
    refine g_aload_n C0 0 d_C_fits_10 rfl rfl ?_
    refine g_getr C0 CK_10 10 (by decide) t_462 0 rfl rfl d_C_fits_11 ?_
    refine g_aload_n C0 0 d_C_fits_14 rfl rfl ?_
    refine g_getr C0 CK_10 5 (by decide) t_457 0 rfl rfl d_C_fits_15 ?_
    refine g_aload_n C0 0 d_C_fits_18 rfl rfl ?_
    obtain ⟨v19, z19, hE⟩ := bd_some hE
    refine g_calliP C0 nd_C [0, 2, 10, 11, 12, 15, 16, 17, 20, 21, 22, 25, 26, 27, 30, 33, 35, 36, 40, 41, 42, 43, 45, 46, 47, 48, 49, 55, 56, 60, 61, 62, 63, 64] rfl (sbW_self WC) (runV C0 (m_C_moment l K ad h z19) 0 rfl ⟨t_764, t_766, t_20, t_85, t_767⟩ cd_C_moment (by decide) 0 rfl rfl (sbW_self WC) nd_C rfl rfl (Nat.le_of_ble_eq_true rfl) d_C_fits_19) ?_
    obtain ⟨h22, z22, hE⟩ := bd_some hE
    refine g_callv C0 nd_C [60, 61, 62, 63, 64, 20, 21, 22, 15, 16, 17] rfl (sb_Lines_C) (runV C0 (m_Lines_countWays l K ad h N v19 z22) 2 rfl ⟨t_1003, t_1004, t_1005, t_92, t_1006⟩ cd_Lines_countWays (by decide) 29 rfl rfl (sb_Lines_C) nd_Lines rfl rfl (Nat.le_of_ble_eq_true rfl) d_C_fits_22) ?_
    obtain ⟨h22m, e22, hE⟩ := nm_some hE
    refine g_heap e22 ?_
    refine g_iload_n C0 1 d_C_fits_25 rfl rfl ?_
    refine g_iconst C0 (v := (-1)) d_C_fits_26 (by decide) ?_
    have hB := ite_some hE
    refine g_icmp_ne C0 (tgt := 45) d_C_fits_27 (by decide) (fun c_ => ?_) (fun c_ => ?_)
    · replace hE := hB.2 c_
      refine g_aload_n C0 0 d_C_fits_45 rfl rfl ?_
      refine g_getr C0 CK_10 10 (by decide) t_462 0 rfl rfl d_C_fits_46 ?_
      refine g_iload_n C0 1 d_C_fits_49 rfl rfl ?_
      refine g_aload_n C0 0 d_C_fits_50 rfl rfl ?_
      refine g_getr C0 CK_10 5 (by decide) t_457 0 rfl rfl d_C_fits_51 ?_
      refine g_aload_n C0 0 d_C_fits_54 rfl rfl ?_
      obtain ⟨v55, z55, hE⟩ := bd_some hE
      refine g_calliP C0 nd_C [0, 2, 10, 11, 12, 15, 16, 17, 20, 21, 22, 25, 26, 27, 30, 33, 35, 36, 40, 41, 42, 43, 45, 46, 47, 48, 49, 55, 56, 60, 61, 62, 63, 64] rfl (sbW_self WC) (runV C0 (m_C_moment l K ad h22m z55) 0 rfl ⟨t_764, t_766, t_20, t_85, t_767⟩ cd_C_moment (by decide) 0 rfl rfl (sbW_self WC) nd_C rfl rfl (Nat.le_of_ble_eq_true rfl) d_C_fits_55) ?_
      obtain ⟨v58, z58, hE⟩ := bd_some hE
      refine g_calliP C0 nd_C [60, 61, 62, 63, 64, 20, 21, 22, 15, 16, 17] rfl (sb_Lines_C) (runV C0 (m_Lines_firstPairAt l K ad h22m N a0 v55 z58) 3 rfl ⟨t_1026, t_1027, t_1028, t_92, t_1029⟩ cd_Lines_firstPairAt (by decide) 29 rfl rfl (sb_Lines_C) nd_Lines rfl rfl (Nat.le_of_ble_eq_true rfl) d_C_fits_58) ?_
      obtain rfl := Option.some.inj hE
      exact g_iret C0 hr d_C_fits_61
    · replace hE := hB.1 c_
      refine g_aload_n C0 0 d_C_fits_30 rfl rfl ?_
      refine g_getr C0 CK_10 10 (by decide) t_462 0 rfl rfl d_C_fits_31 ?_
      refine g_iconst C0 (v := 0) d_C_fits_34 (by decide) ?_
      refine g_aload_n C0 0 d_C_fits_35 rfl rfl ?_
      obtain ⟨v36, z36, hE⟩ := bd_some hE
      refine g_calliP C0 nd_C [0, 2, 10, 11, 12, 15, 16, 17, 20, 21, 22, 25, 26, 27, 30, 33, 35, 36, 40, 41, 42, 43, 45, 46, 47, 48, 49, 55, 56, 60, 61, 62, 63, 64] rfl (sbW_self WC) (runV C0 (m_C_moment l K ad h22m z36) 0 rfl ⟨t_764, t_766, t_20, t_85, t_767⟩ cd_C_moment (by decide) 0 rfl rfl (sbW_self WC) nd_C rfl rfl (Nat.le_of_ble_eq_true rfl) d_C_fits_36) ?_
      obtain ⟨v39, z39, hE⟩ := bd_some hE
      refine g_calliP C0 nd_C [60, 61, 62, 63, 64, 20, 21, 22, 15, 16, 17] rfl (sb_Lines_C) (runV C0 (m_Lines_waysFrom l K ad h22m 0 v36 z39) 2 rfl ⟨t_1025, t_1021, t_1022, t_92, t_1023⟩ cd_Lines_waysFrom (by decide) 29 rfl rfl (sb_Lines_C) nd_Lines rfl rfl (Nat.le_of_ble_eq_true rfl) d_C_fits_39) ?_
      refine g_goto C0 (tgt := 61) d_C_fits_42 (by decide) ?_
      obtain rfl := Option.some.inj hE
      exact g_iret C0 hr d_C_fits_61
  · replace hE := hB.2 c_
    refine g_ldc C0 (v := (-1000000003)) t_759 d_C_fits_7 ?_
    obtain rfl := Option.some.inj hE
    exact g_iret C0 hr d_C_fits_9
theorem m_C_fits (l : Launch) (K : KT) (ad : Nat → Nat) (h : Hp) (N : Nat) (a0 : Int32) {res : Int32 × Hp} (hE : K_C_fits N a0 h = some res) : ConI l y_C_fits prog_1_method_25_code 2 (Option.some Jvm.ClassFile.FieldType.int) rm_C_fits K WC ad h [.ref (ad 0), .int a0] res.1 res.2 := fun sz =>
  con_start [(0, .ref (ad 0)), (1, .int a0)] (by decide +kernel) rfl (Nat.le_of_ble_eq_true rfl) (fun p e s m args below meth c C0 hr hnm hsz => w_C_fits C0 hr N a0 h hE)
abbrev y_C_gave : MethodName := ⟨"CanoeSides", "gave", "(I)I"⟩
abbrev rm_C_gave : Room := { frames := 4, cells := 0, slots := 0, locals := 103 }
theorem cd_C_gave : cwd y_C_gave 1 := by decide +kernel
theorem d_C_gave_0 : decode prog_1_method_26_code 0 = .ok (.iload_n 1, 1) := by decide +kernel
theorem d_C_gave_1 : decode prog_1_method_26_code 1 = .ok (.iconst 0, 1) := by decide +kernel
theorem d_C_gave_2 : decode prog_1_method_26_code 2 = .ok (.iconst 1, 1) := by decide +kernel
theorem d_C_gave_3 : decode prog_1_method_26_code 3 = .ok (.invokestatic 96, 3) := by decide +kernel
theorem d_C_gave_6 : decode prog_1_method_26_code 6 = .ok (.ifCond .eq 6, 3) := by decide +kernel
theorem d_C_gave_9 : decode prog_1_method_26_code 9 = .ok (.ldc 100, 2) := by decide +kernel
theorem d_C_gave_11 : decode prog_1_method_26_code 11 = .ok (.ireturn, 1) := by decide +kernel
theorem d_C_gave_12 : decode prog_1_method_26_code 12 = .ok (.aload_n 0, 1) := by decide +kernel
theorem d_C_gave_13 : decode prog_1_method_26_code 13 = .ok (.invokevirtual 143, 3) := by decide +kernel
theorem d_C_gave_16 : decode prog_1_method_26_code 16 = .ok (.ifCond .eq 6, 3) := by decide +kernel
theorem d_C_gave_19 : decode prog_1_method_26_code 19 = .ok (.ldc 147, 2) := by decide +kernel
theorem d_C_gave_21 : decode prog_1_method_26_code 21 = .ok (.ireturn, 1) := by decide +kernel
theorem d_C_gave_22 : decode prog_1_method_26_code 22 = .ok (.aload_n 0, 1) := by decide +kernel
theorem d_C_gave_23 : decode prog_1_method_26_code 23 = .ok (.getfield 67, 3) := by decide +kernel
theorem d_C_gave_26 : decode prog_1_method_26_code 26 = .ok (.aload_n 0, 1) := by decide +kernel
theorem d_C_gave_27 : decode prog_1_method_26_code 27 = .ok (.getfield 39, 3) := by decide +kernel
theorem d_C_gave_30 : decode prog_1_method_26_code 30 = .ok (.aload_n 0, 1) := by decide +kernel
theorem d_C_gave_31 : decode prog_1_method_26_code 31 = .ok (.invokevirtual 158, 3) := by decide +kernel
theorem d_C_gave_34 : decode prog_1_method_26_code 34 = .ok (.invokevirtual 248, 3) := by decide +kernel
theorem d_C_gave_37 : decode prog_1_method_26_code 37 = .ok (.aload_n 0, 1) := by decide +kernel
theorem d_C_gave_38 : decode prog_1_method_26_code 38 = .ok (.getfield 67, 3) := by decide +kernel
theorem d_C_gave_41 : decode prog_1_method_26_code 41 = .ok (.iload_n 1, 1) := by decide +kernel
theorem d_C_gave_42 : decode prog_1_method_26_code 42 = .ok (.aload_n 0, 1) := by decide +kernel
theorem d_C_gave_43 : decode prog_1_method_26_code 43 = .ok (.getfield 39, 3) := by decide +kernel
theorem d_C_gave_46 : decode prog_1_method_26_code 46 = .ok (.aload_n 0, 1) := by decide +kernel
theorem d_C_gave_47 : decode prog_1_method_26_code 47 = .ok (.invokevirtual 158, 3) := by decide +kernel
theorem d_C_gave_50 : decode prog_1_method_26_code 50 = .ok (.invokevirtual 259, 3) := by decide +kernel
theorem d_C_gave_53 : decode prog_1_method_26_code 53 = .ok (.ireturn, 1) := by decide +kernel
theorem w_C_gave {p : Program} {l : Launch} {e : Env} {s : State} {m : MethodId} {args : Array Value} {below : List Frame} {meth : Method} {c : Code} {K : KT} {A : Nat → Prop} (C0 : Cx p s m args meth c prog_1_method_26_code "CanoeSides" 2 K A) (hr : meth.sig.returnType = (Option.some Jvm.ClassFile.FieldType.int)) {ad : Nat → Nat} (N : Nat) (a0 : Int32) (h : Hp) {res : Int32 × Hp} (hE : K_C_gave N a0 h = some res) : G p l e rm_C_gave s m args below meth c K A WC 2 0 0 (QI s args below K A WC 0 0 ad res.1 res.2) 0 [(0, .ref (ad 0)), (1, .int a0)] [] ad h := by
  unfold K_C_gave at hE
  refine g_iload_n C0 1 d_C_gave_0 rfl rfl ?_
  refine g_iconst C0 (v := 0) d_C_gave_1 (by decide) ?_
  refine g_iconst C0 (v := 1) d_C_gave_2 (by decide) ?_
  obtain ⟨v3, z3, hE⟩ := bd_some hE
  refine g_calliP C0 nd_C [] rfl (sb_E_C) (runS C0 (m_C_isOutside l K ad h a0 0 1 z3) 3 ⟨t_499, t_500, t_85, t_501⟩ cd_C_isOutside (by decide) (sb_E_C) nd_E rfl rfl (Nat.le_of_ble_eq_true rfl) d_C_gave_3) ?_
  have hB := ite_some hE
  refine g_if_eq C0 (tgt := 12) d_C_gave_6 (by decide) (fun c_ => ?_) (fun c_ => ?_)
  · replace hE := hB.1 c_
    refine g_aload_n C0 0 d_C_gave_12 rfl rfl ?_
    obtain ⟨v13, z13, hE⟩ := bd_some hE
    refine g_calliP C0 nd_C [0, 2, 10, 11, 12, 15, 16, 17, 20, 21, 22, 25, 26, 27, 30, 33, 35, 36, 40, 41, 42, 43, 45, 46, 47, 48, 49, 55, 56, 60, 61, 62, 63, 64] rfl (sbW_self WC) (runV C0 (m_C_noSquares l K ad h z13) 0 rfl ⟨t_755, t_757, t_18, t_85, t_758⟩ cd_C_noSquares (by decide) 0 rfl rfl (sbW_self WC) nd_C rfl rfl (Nat.le_of_ble_eq_true rfl) d_C_gave_13) ?_
    have hB := ite_some hE
    refine g_if_eq C0 (tgt := 22) d_C_gave_16 (by decide) (fun c_ => ?_) (fun c_ => ?_)
    · replace hE := hB.1 c_
      refine g_aload_n C0 0 d_C_gave_22 rfl rfl ?_
      refine g_getr C0 CK_10 10 (by decide) t_462 0 rfl rfl d_C_gave_23 ?_
      refine g_aload_n C0 0 d_C_gave_26 rfl rfl ?_
      refine g_getr C0 CK_10 5 (by decide) t_457 0 rfl rfl d_C_gave_27 ?_
      refine g_aload_n C0 0 d_C_gave_30 rfl rfl ?_
      obtain ⟨v31, z31, hE⟩ := bd_some hE
      refine g_calliP C0 nd_C [0, 2, 10, 11, 12, 15, 16, 17, 20, 21, 22, 25, 26, 27, 30, 33, 35, 36, 40, 41, 42, 43, 45, 46, 47, 48, 49, 55, 56, 60, 61, 62, 63, 64] rfl (sbW_self WC) (runV C0 (m_C_moment l K ad h z31) 0 rfl ⟨t_764, t_766, t_20, t_85, t_767⟩ cd_C_moment (by decide) 0 rfl rfl (sbW_self WC) nd_C rfl rfl (Nat.le_of_ble_eq_true rfl) d_C_gave_31) ?_
      obtain ⟨h34, z34, hE⟩ := bd_some hE
      refine g_callv C0 nd_C [60, 61, 62, 63, 64, 20, 21, 22, 15, 16, 17] rfl (sb_Lines_C) (runV C0 (m_Lines_countWays l K ad h N v31 z34) 2 rfl ⟨t_1003, t_1004, t_1005, t_92, t_1006⟩ cd_Lines_countWays (by decide) 29 rfl rfl (sb_Lines_C) nd_Lines rfl rfl (Nat.le_of_ble_eq_true rfl) d_C_gave_34) ?_
      obtain ⟨h34m, e34, hE⟩ := nm_some hE
      refine g_heap e34 ?_
      refine g_aload_n C0 0 d_C_gave_37 rfl rfl ?_
      refine g_getr C0 CK_10 10 (by decide) t_462 0 rfl rfl d_C_gave_38 ?_
      refine g_iload_n C0 1 d_C_gave_41 rfl rfl ?_
      refine g_aload_n C0 0 d_C_gave_42 rfl rfl ?_
      refine g_getr C0 CK_10 5 (by decide) t_457 0 rfl rfl d_C_gave_43 ?_
      refine g_aload_n C0 0 d_C_gave_46 rfl rfl ?_
      obtain ⟨v47, z47, hE⟩ := bd_some hE
      refine g_calliP C0 nd_C [0, 2, 10, 11, 12, 15, 16, 17, 20, 21, 22, 25, 26, 27, 30, 33, 35, 36, 40, 41, 42, 43, 45, 46, 47, 48, 49, 55, 56, 60, 61, 62, 63, 64] rfl (sbW_self WC) (runV C0 (m_C_moment l K ad h34m z47) 0 rfl ⟨t_764, t_766, t_20, t_85, t_767⟩ cd_C_moment (by decide) 0 rfl rfl (sbW_self WC) nd_C rfl rfl (Nat.le_of_ble_eq_true rfl) d_C_gave_47) ?_
      obtain ⟨v50, z50, hE⟩ := bd_some hE
      refine g_calliP C0 nd_C [60, 61, 62, 63, 64, 20, 21, 22, 15, 16, 17] rfl (sb_Lines_C) (runV C0 (m_Lines_heldAlways l K ad h34m N a0 v47 z50) 3 rfl ⟨t_1038, t_1039, t_1040, t_92, t_1041⟩ cd_Lines_heldAlways (by decide) 29 rfl rfl (sb_Lines_C) nd_Lines rfl rfl (Nat.le_of_ble_eq_true rfl) d_C_gave_50) ?_
      obtain rfl := Option.some.inj hE
      exact g_iret C0 hr d_C_gave_53
    · replace hE := hB.2 c_
      refine g_ldc C0 (v := (-1000000003)) t_759 d_C_gave_19 ?_
      obtain rfl := Option.some.inj hE
      exact g_iret C0 hr d_C_gave_21
  · replace hE := hB.2 c_
    refine g_ldc C0 (v := (-1000000002)) t_502 d_C_gave_9 ?_
    obtain rfl := Option.some.inj hE
    exact g_iret C0 hr d_C_gave_11
theorem m_C_gave (l : Launch) (K : KT) (ad : Nat → Nat) (h : Hp) (N : Nat) (a0 : Int32) {res : Int32 × Hp} (hE : K_C_gave N a0 h = some res) : ConI l y_C_gave prog_1_method_26_code 2 (Option.some Jvm.ClassFile.FieldType.int) rm_C_gave K WC ad h [.ref (ad 0), .int a0] res.1 res.2 := fun sz =>
  con_start [(0, .ref (ad 0)), (1, .int a0)] (by decide +kernel) rfl (Nat.le_of_ble_eq_true rfl) (fun p e s m args below meth c C0 hr hnm hsz => w_C_gave C0 hr N a0 h hE)
abbrev y_C_write : MethodName := ⟨"CanoeSides", "write", "(III)I"⟩
abbrev rm_C_write : Room := { frames := 1, cells := 0, slots := 0, locals := 22 }
theorem cd_C_write : cwd y_C_write 3 := by decide +kernel
theorem d_C_write_0 : decode prog_1_method_27_code 0 = .ok (.aload_n 0, 1) := by decide +kernel
theorem d_C_write_1 : decode prog_1_method_27_code 1 = .ok (.getfield 23, 3) := by decide +kernel
theorem d_C_write_4 : decode prog_1_method_27_code 4 = .ok (.iload_n 2, 1) := by decide +kernel
theorem d_C_write_5 : decode prog_1_method_27_code 5 = .ok (.iload_n 3, 1) := by decide +kernel
theorem d_C_write_6 : decode prog_1_method_27_code 6 = .ok (.invokevirtual 131, 3) := by decide +kernel
theorem d_C_write_9 : decode prog_1_method_27_code 9 = .ok (.ifCond .ne 6, 3) := by decide +kernel
theorem d_C_write_12 : decode prog_1_method_27_code 12 = .ok (.ldc 138, 2) := by decide +kernel
theorem d_C_write_14 : decode prog_1_method_27_code 14 = .ok (.ireturn, 1) := by decide +kernel
theorem d_C_write_15 : decode prog_1_method_27_code 15 = .ok (.iload_n 1, 1) := by decide +kernel
theorem d_C_write_16 : decode prog_1_method_27_code 16 = .ok (.iconst 0, 1) := by decide +kernel
theorem d_C_write_17 : decode prog_1_method_27_code 17 = .ok (.bipush 15, 2) := by decide +kernel
theorem d_C_write_19 : decode prog_1_method_27_code 19 = .ok (.invokestatic 96, 3) := by decide +kernel
theorem d_C_write_22 : decode prog_1_method_27_code 22 = .ok (.ifCond .eq 6, 3) := by decide +kernel
theorem d_C_write_25 : decode prog_1_method_27_code 25 = .ok (.ldc 100, 2) := by decide +kernel
theorem d_C_write_27 : decode prog_1_method_27_code 27 = .ok (.ireturn, 1) := by decide +kernel
theorem d_C_write_28 : decode prog_1_method_27_code 28 = .ok (.aload_n 0, 1) := by decide +kernel
theorem d_C_write_29 : decode prog_1_method_27_code 29 = .ok (.getfield 67, 3) := by decide +kernel
theorem d_C_write_32 : decode prog_1_method_27_code 32 = .ok (.iload_n 1, 1) := by decide +kernel
theorem d_C_write_33 : decode prog_1_method_27_code 33 = .ok (.iload_n 3, 1) := by decide +kernel
theorem d_C_write_34 : decode prog_1_method_27_code 34 = .ok (.bipush 8, 2) := by decide +kernel
theorem d_C_write_36 : decode prog_1_method_27_code 36 = .ok (.imul, 1) := by decide +kernel
theorem d_C_write_37 : decode prog_1_method_27_code 37 = .ok (.iload_n 2, 1) := by decide +kernel
theorem d_C_write_38 : decode prog_1_method_27_code 38 = .ok (.iadd, 1) := by decide +kernel
theorem d_C_write_39 : decode prog_1_method_27_code 39 = .ok (.invokevirtual 262, 3) := by decide +kernel
theorem d_C_write_42 : decode prog_1_method_27_code 42 = .ok (.ifCond .eq 13, 3) := by decide +kernel
theorem d_C_write_45 : decode prog_1_method_27_code 45 = .ok (.aload_n 0, 1) := by decide +kernel
theorem d_C_write_46 : decode prog_1_method_27_code 46 = .ok (.getfield 67, 3) := by decide +kernel
theorem d_C_write_49 : decode prog_1_method_27_code 49 = .ok (.getfield 265, 3) := by decide +kernel
theorem d_C_write_52 : decode prog_1_method_27_code 52 = .ok (.goto 5, 3) := by decide +kernel
theorem d_C_write_55 : decode prog_1_method_27_code 55 = .ok (.ldc 101, 2) := by decide +kernel
theorem d_C_write_57 : decode prog_1_method_27_code 57 = .ok (.ireturn, 1) := by decide +kernel
theorem w_C_write {p : Program} {l : Launch} {e : Env} {s : State} {m : MethodId} {args : Array Value} {below : List Frame} {meth : Method} {c : Code} {K : KT} {A : Nat → Prop} (C0 : Cx p s m args meth c prog_1_method_27_code "CanoeSides" 4 K A) (hr : meth.sig.returnType = (Option.some Jvm.ClassFile.FieldType.int)) {ad : Nat → Nat} (a0 : Int32) (b0 : Int32) (c0 : Int32) (h : Hp) {res : Int32 × Hp} (hE : K_C_write a0 b0 c0 h = some res) : G p l e rm_C_write s m args below meth c K A WC 4 0 0 (QI s args below K A WC 0 0 ad res.1 res.2) 0 [(0, .ref (ad 0)), (1, .int a0), (2, .int b0), (3, .int c0)] [] ad h := by
  unfold K_C_write at hE
  refine g_aload_n C0 0 d_C_write_0 rfl rfl ?_
  refine g_getr C0 CK_10 3 (by decide) t_455 0 rfl rfl d_C_write_1 ?_
  refine g_iload_n C0 2 d_C_write_4 rfl rfl ?_
  refine g_iload_n C0 3 d_C_write_5 rfl rfl ?_
  obtain ⟨v6, z6, hE⟩ := bd_some hE
  refine g_calliP C0 nd_C [10, 11, 12] rfl (sb_River_C) (runV C0 (m_River_has l K ad h b0 c0 z6) 2 rfl ⟨t_737, t_738, t_739, t_86, t_740⟩ cd_River_has (by decide) 2 rfl rfl (sb_River_C) nd_River rfl rfl (Nat.le_of_ble_eq_true rfl) d_C_write_6) ?_
  have hB := ite_some hE
  refine g_if_ne C0 (tgt := 15) d_C_write_9 (by decide) (fun c_ => ?_) (fun c_ => ?_)
  · replace hE := hB.2 c_
    refine g_iload_n C0 1 d_C_write_15 rfl rfl ?_
    refine g_iconst C0 (v := 0) d_C_write_16 (by decide) ?_
    refine g_bipush C0 (v := 15) d_C_write_17 (by decide) ?_
    obtain ⟨v19, z19, hE⟩ := bd_some hE
    refine g_calliP C0 nd_C [] rfl (sb_E_C) (runS C0 (m_C_isOutside l K ad h a0 0 15 z19) 3 ⟨t_499, t_500, t_85, t_501⟩ cd_C_isOutside (by decide) (sb_E_C) nd_E rfl rfl (Nat.le_of_ble_eq_true rfl) d_C_write_19) ?_
    have hB := ite_some hE
    refine g_if_eq C0 (tgt := 28) d_C_write_22 (by decide) (fun c_ => ?_) (fun c_ => ?_)
    · replace hE := hB.1 c_
      refine g_aload_n C0 0 d_C_write_28 rfl rfl ?_
      refine g_getr C0 CK_10 10 (by decide) t_462 0 rfl rfl d_C_write_29 ?_
      refine g_iload_n C0 1 d_C_write_32 rfl rfl ?_
      refine g_iload_n C0 3 d_C_write_33 rfl rfl ?_
      refine g_bipush C0 (v := 8) d_C_write_34 (by decide) ?_
      refine g_imul C0 d_C_write_36 ?_
      refine g_iload_n C0 2 d_C_write_37 rfl rfl ?_
      refine g_iadd C0 d_C_write_38 ?_
      obtain ⟨v39, h39, z39, hE⟩ := bd2_some hE
      refine g_calli C0 nd_C [60, 61, 62, 63, 64, 20, 21, 22, 15, 16, 17] rfl (sb_Lines_C) (runV C0 (m_Lines_addEntry l K ad h a0 ((c0 * 8) + b0) z39) 2 rfl ⟨t_1046, t_1047, t_1048, t_92, t_1049⟩ cd_Lines_addEntry (by decide) 29 rfl rfl (sb_Lines_C) nd_Lines rfl rfl (Nat.le_of_ble_eq_true rfl) d_C_write_39) ?_
      obtain ⟨h39m, e39, hE⟩ := nm_some hE
      refine g_heap e39 ?_
      have hB := ite_some hE
      refine g_if_eq C0 (tgt := 55) d_C_write_42 (by decide) (fun c_ => ?_) (fun c_ => ?_)
      · replace hE := hB.1 c_
        refine g_ldc C0 (v := (-1000000004)) t_503 d_C_write_55 ?_
        obtain rfl := Option.some.inj hE
        exact g_iret C0 hr d_C_write_57
      · replace hE := hB.2 c_
        refine g_aload_n C0 0 d_C_write_45 rfl rfl ?_
        refine g_getr C0 CK_10 10 (by decide) t_462 0 rfl rfl d_C_write_46 ?_
        refine g_getiN C0 CK_4 5 (by decide) t_278 29 rfl rfl d_C_write_49 ?_
        refine g_goto C0 (tgt := 57) d_C_write_52 (by decide) ?_
        obtain rfl := Option.some.inj hE
        exact g_iret C0 hr d_C_write_57
    · replace hE := hB.2 c_
      refine g_ldc C0 (v := (-1000000002)) t_502 d_C_write_25 ?_
      obtain rfl := Option.some.inj hE
      exact g_iret C0 hr d_C_write_27
  · replace hE := hB.1 c_
    refine g_ldc C0 (v := (-1000000001)) t_742 d_C_write_12 ?_
    obtain rfl := Option.some.inj hE
    exact g_iret C0 hr d_C_write_14
theorem m_C_write (l : Launch) (K : KT) (ad : Nat → Nat) (h : Hp) (a0 : Int32) (b0 : Int32) (c0 : Int32) {res : Int32 × Hp} (hE : K_C_write a0 b0 c0 h = some res) : ConI l y_C_write prog_1_method_27_code 4 (Option.some Jvm.ClassFile.FieldType.int) rm_C_write K WC ad h [.ref (ad 0), .int a0, .int b0, .int c0] res.1 res.2 := fun sz =>
  con_start [(0, .ref (ad 0)), (1, .int a0), (2, .int b0), (3, .int c0)] (by decide +kernel) rfl (Nat.le_of_ble_eq_true rfl) (fun p e s m args below meth c C0 hr hnm hsz => w_C_write C0 hr a0 b0 c0 h hE)
