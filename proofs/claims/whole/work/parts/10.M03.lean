/-! walks, by program -/
abbrev y_M_off : MethodName := ⟨"CanoeSidesModel", "off", "(III)I"⟩
abbrev rm_M_off : Room := { frames := 3, cells := 0, slots := 0, locals := 71 }
theorem cd_M_off : cwd y_M_off 3 := by decide +kernel
theorem d_M_off_0 : decode prog_13_method_66_code 0 = .ok (.iload_n 1, 1) := by decide +kernel
theorem d_M_off_1 : decode prog_13_method_66_code 1 = .ok (.i2l, 1) := by decide +kernel
theorem d_M_off_2 : decode prog_13_method_66_code 2 = .ok (.lconst 1, 1) := by decide +kernel
theorem d_M_off_3 : decode prog_13_method_66_code 3 = .ok (.ldc2_w 229, 3) := by decide +kernel
theorem d_M_off_6 : decode prog_13_method_66_code 6 = .ok (.invokestatic 67, 3) := by decide +kernel
theorem d_M_off_9 : decode prog_13_method_66_code 9 = .ok (.ifCond .eq 25, 3) := by decide +kernel
theorem d_M_off_12 : decode prog_13_method_66_code 12 = .ok (.iload_n 2, 1) := by decide +kernel
theorem d_M_off_13 : decode prog_13_method_66_code 13 = .ok (.i2l, 1) := by decide +kernel
theorem d_M_off_14 : decode prog_13_method_66_code 14 = .ok (.lconst 1, 1) := by decide +kernel
theorem d_M_off_15 : decode prog_13_method_66_code 15 = .ok (.ldc2_w 229, 3) := by decide +kernel
theorem d_M_off_18 : decode prog_13_method_66_code 18 = .ok (.invokestatic 67, 3) := by decide +kernel
theorem d_M_off_21 : decode prog_13_method_66_code 21 = .ok (.ifCond .eq 13, 3) := by decide +kernel
theorem d_M_off_24 : decode prog_13_method_66_code 24 = .ok (.iload_n 3, 1) := by decide +kernel
theorem d_M_off_25 : decode prog_13_method_66_code 25 = .ok (.i2l, 1) := by decide +kernel
theorem d_M_off_26 : decode prog_13_method_66_code 26 = .ok (.lconst 0, 1) := by decide +kernel
theorem d_M_off_27 : decode prog_13_method_66_code 27 = .ok (.lconst 1, 1) := by decide +kernel
theorem d_M_off_28 : decode prog_13_method_66_code 28 = .ok (.invokestatic 67, 3) := by decide +kernel
theorem d_M_off_31 : decode prog_13_method_66_code 31 = .ok (.ifCond .ne 6, 3) := by decide +kernel
theorem d_M_off_34 : decode prog_13_method_66_code 34 = .ok (.ldc 71, 2) := by decide +kernel
theorem d_M_off_36 : decode prog_13_method_66_code 36 = .ok (.ireturn, 1) := by decide +kernel
theorem d_M_off_37 : decode prog_13_method_66_code 37 = .ok (.aload_n 0, 1) := by decide +kernel
theorem d_M_off_38 : decode prog_13_method_66_code 38 = .ok (.iload_n 1, 1) := by decide +kernel
theorem d_M_off_39 : decode prog_13_method_66_code 39 = .ok (.iload_n 2, 1) := by decide +kernel
theorem d_M_off_40 : decode prog_13_method_66_code 40 = .ok (.invokevirtual 289, 3) := by decide +kernel
theorem d_M_off_43 : decode prog_13_method_66_code 43 = .ok (.iload_n 3, 1) := by decide +kernel
theorem d_M_off_44 : decode prog_13_method_66_code 44 = .ok (.ifCond .ne 10, 3) := by decide +kernel
theorem d_M_off_47 : decode prog_13_method_66_code 47 = .ok (.aload_n 0, 1) := by decide +kernel
theorem d_M_off_48 : decode prog_13_method_66_code 48 = .ok (.getfield 283, 3) := by decide +kernel
theorem d_M_off_51 : decode prog_13_method_66_code 51 = .ok (.goto 7, 3) := by decide +kernel
theorem d_M_off_54 : decode prog_13_method_66_code 54 = .ok (.aload_n 0, 1) := by decide +kernel
theorem d_M_off_55 : decode prog_13_method_66_code 55 = .ok (.getfield 286, 3) := by decide +kernel
theorem d_M_off_58 : decode prog_13_method_66_code 58 = .ok (.ireturn, 1) := by decide +kernel
theorem w_M_off {p : Program} {l : Launch} {e : Env} {s : State} {m : MethodId} {args : Array Value} {below : List Frame} {meth : Method} {c : Code} {K : KT} {A : Nat → Prop} (C0 : Cx p s m args meth c prog_13_method_66_code "CanoeSidesModel" 4 K A) (hr : meth.sig.returnType = (Option.some Jvm.ClassFile.FieldType.int)) {ad : Nat → Nat} (N : Nat) (a0 : Int32) (b0 : Int32) (c0 : Int32) (h : Hp) {res : Int32 × Hp} (hE : K_M_off N a0 b0 c0 h = some res) : G p l e rm_M_off s m args below meth c K A WM 4 0 0 (QI s args below K A WM 0 0 ad res.1 res.2) 0 [(0, .ref (ad 100)), (1, .int a0), (2, .int b0), (3, .int c0)] [] ad h := by
  unfold K_M_off at hE
  refine g_iload_n C0 1 d_M_off_0 rfl rfl ?_
  refine g_i2l C0 d_M_off_1 ?_
  refine g_lconst C0 (v := 1) d_M_off_2 (by decide) ?_
  refine g_ldc2 C0 (v := 99) t_1360 d_M_off_3 ?_
  obtain ⟨v6, z6, hE⟩ := bd_some hE
  refine g_calliP C0 nd_M [] rfl (sb_E_M) (runS C0 (m_M_in l K ad h (Int32.toInt64 a0) 1 99 z6) 3 ⟨t_1196, t_1197, t_97, t_1198⟩ cd_M_in (by decide) (sb_E_M) nd_E rfl rfl (Nat.le_of_ble_eq_true rfl) d_M_off_6) ?_
  have hB := ite_some hE
  refine g_if_eq C0 (tgt := 34) d_M_off_9 (by decide) (fun c_ => ?_) (fun c_ => ?_)
  · replace hE := hB.1 c_
    refine g_ldc C0 (v := (-1000000002)) t_1199 d_M_off_34 ?_
    obtain rfl := Option.some.inj hE
    exact g_iret C0 hr d_M_off_36
  · replace hE := hB.2 c_
    refine g_iload_n C0 2 d_M_off_12 rfl rfl ?_
    refine g_i2l C0 d_M_off_13 ?_
    refine g_lconst C0 (v := 1) d_M_off_14 (by decide) ?_
    refine g_ldc2 C0 (v := 99) t_1360 d_M_off_15 ?_
    obtain ⟨v18, z18, hE⟩ := bd_some hE
    refine g_calliP C0 nd_M [] rfl (sb_E_M) (runS C0 (m_M_in l K ad h (Int32.toInt64 b0) 1 99 z18) 3 ⟨t_1196, t_1197, t_97, t_1198⟩ cd_M_in (by decide) (sb_E_M) nd_E rfl rfl (Nat.le_of_ble_eq_true rfl) d_M_off_18) ?_
    have hB := ite_some hE
    refine g_if_eq C0 (tgt := 34) d_M_off_21 (by decide) (fun c_ => ?_) (fun c_ => ?_)
    · replace hE := hB.1 c_
      refine g_ldc C0 (v := (-1000000002)) t_1199 d_M_off_34 ?_
      obtain rfl := Option.some.inj hE
      exact g_iret C0 hr d_M_off_36
    · replace hE := hB.2 c_
      refine g_iload_n C0 3 d_M_off_24 rfl rfl ?_
      refine g_i2l C0 d_M_off_25 ?_
      refine g_lconst C0 (v := 0) d_M_off_26 (by decide) ?_
      refine g_lconst C0 (v := 1) d_M_off_27 (by decide) ?_
      obtain ⟨v28, z28, hE⟩ := bd_some hE
      refine g_calliP C0 nd_M [] rfl (sb_E_M) (runS C0 (m_M_in l K ad h (Int32.toInt64 c0) 0 1 z28) 3 ⟨t_1196, t_1197, t_97, t_1198⟩ cd_M_in (by decide) (sb_E_M) nd_E rfl rfl (Nat.le_of_ble_eq_true rfl) d_M_off_28) ?_
      have hB := ite_some hE
      refine g_if_ne C0 (tgt := 37) d_M_off_31 (by decide) (fun c_ => ?_) (fun c_ => ?_)
      · replace hE := hB.2 c_
        refine g_aload_n C0 0 d_M_off_37 rfl rfl ?_
        refine g_iload_n C0 1 d_M_off_38 rfl rfl ?_
        refine g_iload_n C0 2 d_M_off_39 rfl rfl ?_
        obtain ⟨h40, z40, hE⟩ := bd_some hE
        refine g_callv C0 nd_M [100, 101, 102, 103, 104, 105, 106, 107, 108, 109, 110, 111, 112, 113, 114, 115] rfl (sbW_self WM) (runV C0 (m_M_openWater l K ad h N a0 b0 z40) 2 rfl ⟨t_1449, t_1451, t_75, t_97, t_1452⟩ cd_M_openWater (by decide) 0 rfl rfl (sbW_self WM) nd_M rfl rfl (Nat.le_of_ble_eq_true rfl) d_M_off_40) ?_
        refine g_mx [100, 101, 102, 103, 104, 105, 106, 107, 108, 109, 110, 111, 112, 113, 114, 115] rfl ?_
        refine g_iload_n C0 3 d_M_off_43 rfl rfl ?_
        have hB := ite_some hE
        refine g_if_ne C0 (tgt := 54) d_M_off_44 (by decide) (fun c_ => ?_) (fun c_ => ?_)
        · replace hE := hB.2 c_
          refine g_aload_n C0 0 d_M_off_54 rfl rfl ?_
          refine g_geti C0 CK_11 23 (by decide) t_1113 0 rfl rfl d_M_off_55 ?_
          obtain rfl := Option.some.inj hE
          exact g_iret C0 hr d_M_off_58
        · replace hE := hB.1 c_
          refine g_aload_n C0 0 d_M_off_47 rfl rfl ?_
          refine g_geti C0 CK_11 22 (by decide) t_1112 0 rfl rfl d_M_off_48 ?_
          refine g_goto C0 (tgt := 58) d_M_off_51 (by decide) ?_
          obtain rfl := Option.some.inj hE
          exact g_iret C0 hr d_M_off_58
      · replace hE := hB.1 c_
        refine g_ldc C0 (v := (-1000000002)) t_1199 d_M_off_34 ?_
        obtain rfl := Option.some.inj hE
        exact g_iret C0 hr d_M_off_36
theorem m_M_off (l : Launch) (K : KT) (ad : Nat → Nat) (h : Hp) (N : Nat) (a0 : Int32) (b0 : Int32) (c0 : Int32) {res : Int32 × Hp} (hE : K_M_off N a0 b0 c0 h = some res) : ConI l y_M_off prog_13_method_66_code 4 (Option.some Jvm.ClassFile.FieldType.int) rm_M_off K WM ad h [.ref (ad 100), .int a0, .int b0, .int c0] res.1 res.2 := fun sz =>
  con_start [(0, .ref (ad 100)), (1, .int a0), (2, .int b0), (3, .int c0)] (by decide +kernel) rfl (Nat.le_of_ble_eq_true rfl) (fun p e s m args below meth c C0 hr hnm hsz => w_M_off C0 hr N a0 b0 c0 h hE)
abbrev y_M_best : MethodName := ⟨"CanoeSidesModel", "best", "(I)I"⟩
abbrev rm_M_best : Room := { frames := 3, cells := 0, slots := 0, locals := 71 }
theorem cd_M_best : cwd y_M_best 1 := by decide +kernel
theorem d_M_best_0 : decode prog_13_method_67_code 0 = .ok (.iload_n 1, 1) := by decide +kernel
theorem d_M_best_1 : decode prog_13_method_67_code 1 = .ok (.i2l, 1) := by decide +kernel
theorem d_M_best_2 : decode prog_13_method_67_code 2 = .ok (.lconst 1, 1) := by decide +kernel
theorem d_M_best_3 : decode prog_13_method_67_code 3 = .ok (.ldc2_w 229, 3) := by decide +kernel
theorem d_M_best_6 : decode prog_13_method_67_code 6 = .ok (.invokestatic 67, 3) := by decide +kernel
theorem d_M_best_9 : decode prog_13_method_67_code 9 = .ok (.ifCond .ne 6, 3) := by decide +kernel
theorem d_M_best_12 : decode prog_13_method_67_code 12 = .ok (.ldc 71, 2) := by decide +kernel
theorem d_M_best_14 : decode prog_13_method_67_code 14 = .ok (.ireturn, 1) := by decide +kernel
theorem d_M_best_15 : decode prog_13_method_67_code 15 = .ok (.iconst 0, 1) := by decide +kernel
theorem d_M_best_16 : decode prog_13_method_67_code 16 = .ok (.istore_n 2, 1) := by decide +kernel
theorem d_M_best_17 : decode prog_13_method_67_code 17 = .ok (.ldc 240, 2) := by decide +kernel
theorem d_M_best_19 : decode prog_13_method_67_code 19 = .ok (.istore_n 3, 1) := by decide +kernel
theorem d_M_best_20 : decode prog_13_method_67_code 20 = .ok (.ldc_w 292, 3) := by decide +kernel
theorem d_M_best_23 : decode prog_13_method_67_code 23 = .ok (.istore 4, 2) := by decide +kernel
theorem d_M_best_25 : decode prog_13_method_67_code 25 = .ok (.iconst 1, 1) := by decide +kernel
theorem d_M_best_26 : decode prog_13_method_67_code 26 = .ok (.istore 5, 2) := by decide +kernel
theorem d_M_best_28 : decode prog_13_method_67_code 28 = .ok (.iload 5, 2) := by decide +kernel
theorem d_M_best_30 : decode prog_13_method_67_code 30 = .ok (.bipush 10, 2) := by decide +kernel
theorem d_M_best_32 : decode prog_13_method_67_code 32 = .ok (.if_icmp .ge 70, 3) := by decide +kernel
theorem d_M_best_35 : decode prog_13_method_67_code 35 = .ok (.aload_n 0, 1) := by decide +kernel
theorem d_M_best_36 : decode prog_13_method_67_code 36 = .ok (.iload 5, 2) := by decide +kernel
theorem d_M_best_38 : decode prog_13_method_67_code 38 = .ok (.iload_n 1, 1) := by decide +kernel
theorem d_M_best_39 : decode prog_13_method_67_code 39 = .ok (.invokevirtual 289, 3) := by decide +kernel
theorem d_M_best_42 : decode prog_13_method_67_code 42 = .ok (.aload_n 0, 1) := by decide +kernel
theorem d_M_best_43 : decode prog_13_method_67_code 43 = .ok (.getfield 283, 3) := by decide +kernel
theorem d_M_best_46 : decode prog_13_method_67_code 46 = .ok (.ifCond .ge 11, 3) := by decide +kernel
theorem d_M_best_49 : decode prog_13_method_67_code 49 = .ok (.aload_n 0, 1) := by decide +kernel
theorem d_M_best_50 : decode prog_13_method_67_code 50 = .ok (.getfield 283, 3) := by decide +kernel
theorem d_M_best_53 : decode prog_13_method_67_code 53 = .ok (.ineg, 1) := by decide +kernel
theorem d_M_best_54 : decode prog_13_method_67_code 54 = .ok (.goto 7, 3) := by decide +kernel
theorem d_M_best_57 : decode prog_13_method_67_code 57 = .ok (.aload_n 0, 1) := by decide +kernel
theorem d_M_best_58 : decode prog_13_method_67_code 58 = .ok (.getfield 283, 3) := by decide +kernel
theorem d_M_best_61 : decode prog_13_method_67_code 61 = .ok (.istore 6, 2) := by decide +kernel
theorem d_M_best_63 : decode prog_13_method_67_code 63 = .ok (.iload 6, 2) := by decide +kernel
theorem d_M_best_65 : decode prog_13_method_67_code 65 = .ok (.iload_n 3, 1) := by decide +kernel
theorem d_M_best_66 : decode prog_13_method_67_code 66 = .ok (.if_icmp .lt 18, 3) := by decide +kernel
theorem d_M_best_69 : decode prog_13_method_67_code 69 = .ok (.iload 6, 2) := by decide +kernel
theorem d_M_best_71 : decode prog_13_method_67_code 71 = .ok (.iload_n 3, 1) := by decide +kernel
theorem d_M_best_72 : decode prog_13_method_67_code 72 = .ok (.if_icmp .ne 24, 3) := by decide +kernel
theorem d_M_best_75 : decode prog_13_method_67_code 75 = .ok (.aload_n 0, 1) := by decide +kernel
theorem d_M_best_76 : decode prog_13_method_67_code 76 = .ok (.getfield 286, 3) := by decide +kernel
theorem d_M_best_79 : decode prog_13_method_67_code 79 = .ok (.iload 4, 2) := by decide +kernel
theorem d_M_best_81 : decode prog_13_method_67_code 81 = .ok (.if_icmp .le 15, 3) := by decide +kernel
theorem d_M_best_84 : decode prog_13_method_67_code 84 = .ok (.iload 5, 2) := by decide +kernel
theorem d_M_best_86 : decode prog_13_method_67_code 86 = .ok (.istore_n 2, 1) := by decide +kernel
theorem d_M_best_87 : decode prog_13_method_67_code 87 = .ok (.iload 6, 2) := by decide +kernel
theorem d_M_best_89 : decode prog_13_method_67_code 89 = .ok (.istore_n 3, 1) := by decide +kernel
theorem d_M_best_90 : decode prog_13_method_67_code 90 = .ok (.aload_n 0, 1) := by decide +kernel
theorem d_M_best_91 : decode prog_13_method_67_code 91 = .ok (.getfield 286, 3) := by decide +kernel
theorem d_M_best_94 : decode prog_13_method_67_code 94 = .ok (.istore 4, 2) := by decide +kernel
theorem d_M_best_96 : decode prog_13_method_67_code 96 = .ok (.iinc 5 1, 3) := by decide +kernel
theorem d_M_best_99 : decode prog_13_method_67_code 99 = .ok (.goto (-71), 3) := by decide +kernel
theorem d_M_best_102 : decode prog_13_method_67_code 102 = .ok (.iload_n 2, 1) := by decide +kernel
theorem d_M_best_103 : decode prog_13_method_67_code 103 = .ok (.ireturn, 1) := by decide +kernel
theorem w_M_best_J84 {p : Program} {l : Launch} {e : Env} {s : State} {m : MethodId} {args : Array Value} {below : List Frame} {meth : Method} {c : Code} {K : KT} {A : Nat → Prop} {Q : State → Prop} (C0 : Cx p s m args meth c prog_13_method_67_code "CanoeSidesModel" 7 K A) (hr : meth.sig.returnType = (Option.some Jvm.ClassFile.FieldType.int)) {ad : Nat → Nat} (N : Nat) (x1 : Int32) (x5 : Int32) (x6 : Int32) (h : Hp) {x_ : (Int32 × Int32 × Int32 × Int32 × Hp) ⊕ (Int32 × Hp)} (hE : K_M_best_J84 N x1 x5 x6 h = some x_) (hk1 : ∀ z_, x_ = .inl z_ → G p l e rm_M_best s m args below meth c K A WM 7 0 0 Q 28 [(0, .ref (ad 100)), (1, .int x1), (2, .int z_.1), (3, .int z_.2.1), (4, .int z_.2.2.1), (5, .int z_.2.2.2.1)] [] ad z_.2.2.2.2) (hk3 : ∀ z_, x_ = .inr z_ → G p l e rm_M_best s m args below meth c K A WM 7 0 0 Q 102 [(2, .int z_.1)] [] ad z_.2) : G p l e rm_M_best s m args below meth c K A WM 7 0 0 Q 84 [(0, .ref (ad 100)), (1, .int x1), (5, .int x5), (6, .int x6)] [] ad h := by
  unfold K_M_best_J84 at hE
  refine g_iload C0 2 d_M_best_84 rfl ?_
  refine g_istore_n C0 [(2, .int x5), (0, .ref (ad 100)), (1, .int x1), (5, .int x5), (6, .int x6)] d_M_best_86 rfl (by decide) rfl ?_
  refine g_iload C0 4 d_M_best_87 rfl ?_
  refine g_istore_n C0 [(3, .int x6), (2, .int x5), (0, .ref (ad 100)), (1, .int x1), (5, .int x5), (6, .int x6)] d_M_best_89 rfl (by decide) rfl ?_
  refine g_aload_n C0 2 d_M_best_90 rfl rfl ?_
  refine g_geti C0 CK_11 23 (by decide) t_1113 0 rfl rfl d_M_best_91 ?_
  obtain ⟨v94, e94, hE⟩ := nm_some hE
  refine g_top e94 ?_
  refine g_istore C0 [(4, .int v94), (3, .int x6), (2, .int x5), (0, .ref (ad 100)), (1, .int x1), (5, .int x5), (6, .int x6)] d_M_best_94 (by decide) rfl ?_
  obtain ⟨v96, e96, hE⟩ := nm_some hE
  refine g_iinc C0 5 [(5, .int v96), (4, .int v94), (3, .int x6), (2, .int x5), (0, .ref (ad 100)), (1, .int x1), (6, .int x6)] d_M_best_96 rfl (by rw [e96]; rfl) (by decide) rfl ?_
  refine g_goto C0 (tgt := 28) d_M_best_99 (by decide) ?_
  refine g_sub [4, 5, 3, 2, 1, 0] (L' := [(0, .ref (ad 100)), (1, .int x1), (2, .int x5), (3, .int x6), (4, .int v94), (5, .int v96)]) rfl ?_
  exact hk1 _ (Option.some.inj hE).symm
theorem w_M_best_J61 {p : Program} {l : Launch} {e : Env} {s : State} {m : MethodId} {args : Array Value} {below : List Frame} {meth : Method} {c : Code} {K : KT} {A : Nat → Prop} {Q : State → Prop} (C0 : Cx p s m args meth c prog_13_method_67_code "CanoeSidesModel" 7 K A) (hr : meth.sig.returnType = (Option.some Jvm.ClassFile.FieldType.int)) {ad : Nat → Nat} (N : Nat) (x1 : Int32) (x2 : Int32) (x3 : Int32) (x4 : Int32) (x5 : Int32) (y0 : Int32) (h : Hp) {x_ : (Int32 × Int32 × Int32 × Int32 × Hp) ⊕ (Int32 × Hp)} (hE : K_M_best_J61 N x1 x2 x3 x4 x5 y0 h = some x_) (hk1 : ∀ z_, x_ = .inl z_ → G p l e rm_M_best s m args below meth c K A WM 7 0 0 Q 28 [(0, .ref (ad 100)), (1, .int x1), (2, .int z_.1), (3, .int z_.2.1), (4, .int z_.2.2.1), (5, .int z_.2.2.2.1)] [] ad z_.2.2.2.2) (hk3 : ∀ z_, x_ = .inr z_ → G p l e rm_M_best s m args below meth c K A WM 7 0 0 Q 102 [(2, .int z_.1)] [] ad z_.2) : G p l e rm_M_best s m args below meth c K A WM 7 0 0 Q 61 [(0, .ref (ad 100)), (1, .int x1), (2, .int x2), (3, .int x3), (4, .int x4), (5, .int x5)] [.int y0] ad h := by
  unfold K_M_best_J61 at hE
  refine g_istore C0 [(6, .int y0), (0, .ref (ad 100)), (1, .int x1), (2, .int x2), (3, .int x3), (4, .int x4), (5, .int x5)] d_M_best_61 (by decide) rfl ?_
  refine g_iload C0 0 d_M_best_63 rfl ?_
  refine g_iload_n C0 4 d_M_best_65 rfl rfl ?_
  have hB := ite_some hE
  refine g_icmp_lt C0 (tgt := 84) d_M_best_66 (by decide) (fun c_ => ?_) (fun c_ => ?_)
  · replace hE := hB.1 c_
    refine g_sub [1, 2, 6, 0] (L' := [(0, .ref (ad 100)), (1, .int x1), (5, .int x5), (6, .int y0)]) rfl ?_
    exact w_M_best_J84 C0 hr N x1 x5 y0 h hE hk1 hk3
  · replace hE := hB.2 c_
    refine g_iload C0 0 d_M_best_69 rfl ?_
    refine g_iload_n C0 4 d_M_best_71 rfl rfl ?_
    have hB := ite_some hE
    refine g_icmp_ne C0 (tgt := 96) d_M_best_72 (by decide) (fun c_ => ?_) (fun c_ => ?_)
    · replace hE := hB.2 c_
      obtain ⟨v96, e96, hE⟩ := nm_some hE
      refine g_iinc C0 6 [(5, .int v96), (6, .int y0), (0, .ref (ad 100)), (1, .int x1), (2, .int x2), (3, .int x3), (4, .int x4)] d_M_best_96 rfl (by rw [e96]; rfl) (by decide) rfl ?_
      refine g_goto C0 (tgt := 28) d_M_best_99 (by decide) ?_
      refine g_sub [2, 3, 4, 5, 6, 0] (L' := [(0, .ref (ad 100)), (1, .int x1), (2, .int x2), (3, .int x3), (4, .int x4), (5, .int v96)]) rfl ?_
      exact hk1 _ (Option.some.inj hE).symm
    · replace hE := hB.1 c_
      refine g_aload_n C0 1 d_M_best_75 rfl rfl ?_
      refine g_geti C0 CK_11 23 (by decide) t_1113 0 rfl rfl d_M_best_76 ?_
      refine g_iload C0 5 d_M_best_79 rfl ?_
      have hB := ite_some hE
      refine g_icmp_le C0 (tgt := 96) d_M_best_81 (by decide) (fun c_ => ?_) (fun c_ => ?_)
      · replace hE := hB.1 c_
        obtain ⟨v96, e96, hE⟩ := nm_some hE
        refine g_iinc C0 6 [(5, .int v96), (6, .int y0), (0, .ref (ad 100)), (1, .int x1), (2, .int x2), (3, .int x3), (4, .int x4)] d_M_best_96 rfl (by rw [e96]; rfl) (by decide) rfl ?_
        refine g_goto C0 (tgt := 28) d_M_best_99 (by decide) ?_
        refine g_sub [2, 3, 4, 5, 6, 0] (L' := [(0, .ref (ad 100)), (1, .int x1), (2, .int x2), (3, .int x3), (4, .int x4), (5, .int v96)]) rfl ?_
        exact hk1 _ (Option.some.inj hE).symm
      · replace hE := hB.2 c_
        refine g_sub [1, 2, 6, 0] (L' := [(0, .ref (ad 100)), (1, .int x1), (5, .int x5), (6, .int y0)]) rfl ?_
        exact w_M_best_J84 C0 hr N x1 x5 y0 h hE hk1 hk3
theorem w_M_best_L28 {p : Program} {l : Launch} {e : Env} {s : State} {m : MethodId} {args : Array Value} {below : List Frame} {meth : Method} {c : Code} {K : KT} {A : Nat → Prop} {Q : State → Prop} (C0 : Cx p s m args meth c prog_13_method_67_code "CanoeSidesModel" 7 K A) (hr : meth.sig.returnType = (Option.some Jvm.ClassFile.FieldType.int)) {ad : Nat → Nat} (N : Nat) (x1 : Int32) (x2 : Int32) (x3 : Int32) (x4 : Int32) (x5 : Int32) (h : Hp) {x_ : (Int32 × Int32 × Int32 × Int32 × Hp) ⊕ (Int32 × Hp)} (hE : K_M_best_L28 N x1 x2 x3 x4 x5 h = some x_) (hk1 : ∀ z_, x_ = .inl z_ → G p l e rm_M_best s m args below meth c K A WM 7 0 0 Q 28 [(0, .ref (ad 100)), (1, .int x1), (2, .int z_.1), (3, .int z_.2.1), (4, .int z_.2.2.1), (5, .int z_.2.2.2.1)] [] ad z_.2.2.2.2) (hk3 : ∀ z_, x_ = .inr z_ → G p l e rm_M_best s m args below meth c K A WM 7 0 0 Q 102 [(2, .int z_.1)] [] ad z_.2) : G p l e rm_M_best s m args below meth c K A WM 7 0 0 Q 28 [(0, .ref (ad 100)), (1, .int x1), (2, .int x2), (3, .int x3), (4, .int x4), (5, .int x5)] [] ad h := by
  unfold K_M_best_L28 at hE
  refine g_iload C0 5 d_M_best_28 rfl ?_
  refine g_bipush C0 (v := 10) d_M_best_30 (by decide) ?_
  have hB := ite_some hE
  refine g_icmp_ge C0 (tgt := 102) d_M_best_32 (by decide) (fun c_ => ?_) (fun c_ => ?_)
  · replace hE := hB.1 c_
    refine g_sub [2] (L' := [(2, .int x2)]) rfl ?_
    exact hk3 _ (Option.some.inj hE).symm
  · replace hE := hB.2 c_
    refine g_aload_n C0 0 d_M_best_35 rfl rfl ?_
    refine g_iload C0 5 d_M_best_36 rfl ?_
    refine g_iload_n C0 1 d_M_best_38 rfl rfl ?_
    obtain ⟨h39, z39, hE⟩ := bd_some hE
    refine g_callv C0 nd_M [100, 101, 102, 103, 104, 105, 106, 107, 108, 109, 110, 111, 112, 113, 114, 115] rfl (sbW_self WM) (runV C0 (m_M_openWater l K ad h N x5 x1 z39) 2 rfl ⟨t_1449, t_1451, t_75, t_97, t_1452⟩ cd_M_openWater (by decide) 0 rfl rfl (sbW_self WM) nd_M rfl rfl (Nat.le_of_ble_eq_true rfl) d_M_best_39) ?_
    refine g_mx [100, 101, 102, 103, 104, 105, 106, 107, 108, 109, 110, 111, 112, 113, 114, 115] rfl ?_
    refine g_aload_n C0 0 d_M_best_42 rfl rfl ?_
    refine g_geti C0 CK_11 22 (by decide) t_1112 0 rfl rfl d_M_best_43 ?_
    have hB := ite_some hE
    refine g_if_ge C0 (tgt := 57) d_M_best_46 (by decide) (fun c_ => ?_) (fun c_ => ?_)
    · replace hE := hB.1 c_
      refine g_aload_n C0 0 d_M_best_57 rfl rfl ?_
      refine g_geti C0 CK_11 22 (by decide) t_1112 0 rfl rfl d_M_best_58 ?_
      exact w_M_best_J61 C0 hr N x1 x2 x3 x4 x5 (h39 100 22) h39 hE hk1 hk3
    · replace hE := hB.2 c_
      refine g_aload_n C0 0 d_M_best_49 rfl rfl ?_
      refine g_geti C0 CK_11 22 (by decide) t_1112 0 rfl rfl d_M_best_50 ?_
      refine g_ineg C0 d_M_best_53 ?_
      refine g_goto C0 (tgt := 61) d_M_best_54 (by decide) ?_
      exact w_M_best_J61 C0 hr N x1 x2 x3 x4 x5 (-(h39 100 22)) h39 hE hk1 hk3
theorem w_M_best {p : Program} {l : Launch} {e : Env} {s : State} {m : MethodId} {args : Array Value} {below : List Frame} {meth : Method} {c : Code} {K : KT} {A : Nat → Prop} (C0 : Cx p s m args meth c prog_13_method_67_code "CanoeSidesModel" 7 K A) (hr : meth.sig.returnType = (Option.some Jvm.ClassFile.FieldType.int)) {ad : Nat → Nat} (N : Nat) (a0 : Int32) (h : Hp) {res : Int32 × Hp} (hE : K_M_best N a0 h = some res) : G p l e rm_M_best s m args below meth c K A WM 7 0 0 (QI s args below K A WM 0 0 ad res.1 res.2) 0 [(0, .ref (ad 100)), (1, .int a0)] [] ad h := by
  unfold K_M_best at hE
  refine g_iload_n C0 1 d_M_best_0 rfl rfl ?_
  refine g_i2l C0 d_M_best_1 ?_
  refine g_lconst C0 (v := 1) d_M_best_2 (by decide) ?_
  refine g_ldc2 C0 (v := 99) t_1360 d_M_best_3 ?_
  obtain ⟨v6, z6, hE⟩ := bd_some hE
  refine g_calliP C0 nd_M [] rfl (sb_E_M) (runS C0 (m_M_in l K ad h (Int32.toInt64 a0) 1 99 z6) 3 ⟨t_1196, t_1197, t_97, t_1198⟩ cd_M_in (by decide) (sb_E_M) nd_E rfl rfl (Nat.le_of_ble_eq_true rfl) d_M_best_6) ?_
  have hB := ite_some hE
  refine g_if_ne C0 (tgt := 15) d_M_best_9 (by decide) (fun c_ => ?_) (fun c_ => ?_)
  · replace hE := hB.2 c_
    refine g_iconst C0 (v := 0) d_M_best_15 (by decide) ?_
    refine g_istore_n C0 [(2, .int 0), (0, .ref (ad 100)), (1, .int a0)] d_M_best_16 rfl (by decide) rfl ?_
    refine g_ldc C0 (v := 99999999) t_1393 d_M_best_17 ?_
    refine g_istore_n C0 [(3, .int 99999999), (2, .int 0), (0, .ref (ad 100)), (1, .int a0)] d_M_best_19 rfl (by decide) rfl ?_
    refine g_ldcw C0 (v := (-99999999)) t_1457 d_M_best_20 ?_
    refine g_istore C0 [(4, .int (-99999999)), (3, .int 99999999), (2, .int 0), (0, .ref (ad 100)), (1, .int a0)] d_M_best_23 (by decide) rfl ?_
    refine g_iconst C0 (v := 1) d_M_best_25 (by decide) ?_
    refine g_istore C0 [(5, .int 1), (4, .int (-99999999)), (3, .int 99999999), (2, .int 0), (0, .ref (ad 100)), (1, .int a0)] d_M_best_26 (by decide) rfl ?_
    refine g_sub [4, 5, 3, 2, 1, 0] (L' := [(0, .ref (ad 100)), (1, .int a0), (2, .int 0), (3, .int 99999999), (4, .int (-99999999)), (5, .int 1)]) rfl ?_
    obtain ⟨t28, z28, hE⟩ := bd_some hE
    refine loopG (fun z_ : Int32 × Int32 × Int32 × Int32 × Hp => K_M_best_L28 N a0 z_.1 z_.2.1 z_.2.2.1 z_.2.2.2.1 z_.2.2.2.2) (fun z_ : Int32 × Int32 × Int32 × Int32 × Hp => G p l e rm_M_best s m args below meth c K A WM 7 0 0 _ 28 [(0, .ref (ad 100)), (1, .int a0), (2, .int z_.1), (3, .int z_.2.1), (4, .int z_.2.2.1), (5, .int z_.2.2.2.1)] [] ad z_.2.2.2.2) (fun z_ : Int32 × Hp => G p l e rm_M_best s m args below meth c K A WM 7 0 0 _ 102 [(2, .int z_.1)] [] ad z_.2) (fun z_ x_ hz k1 k2 => w_M_best_L28 C0 hr N a0 z_.1 z_.2.1 z_.2.2.1 z_.2.2.2.1 z_.2.2.2.2 hz k1 k2) _ _ _ z28 ?_
    try dsimp only
    refine g_iload_n C0 0 d_M_best_102 rfl rfl ?_
    obtain rfl := Option.some.inj hE
    exact g_iret C0 hr d_M_best_103
  · replace hE := hB.1 c_
    refine g_ldc C0 (v := (-1000000002)) t_1199 d_M_best_12 ?_
    obtain rfl := Option.some.inj hE
    exact g_iret C0 hr d_M_best_14
theorem m_M_best (l : Launch) (K : KT) (ad : Nat → Nat) (h : Hp) (N : Nat) (a0 : Int32) {res : Int32 × Hp} (hE : K_M_best N a0 h = some res) : ConI l y_M_best prog_13_method_67_code 7 (Option.some Jvm.ClassFile.FieldType.int) rm_M_best K WM ad h [.ref (ad 100), .int a0] res.1 res.2 := fun sz =>
  con_start [(0, .ref (ad 100)), (1, .int a0)] (by decide +kernel) rfl (Nat.le_of_ble_eq_true rfl) (fun p e s m args below meth c C0 hr hnm hsz => w_M_best C0 hr N a0 h hE)
abbrev y_M_stateBy : MethodName := ⟨"CanoeSidesModel", "stateBy", "(II)I"⟩
abbrev rm_M_stateBy : Room := { frames := 6, cells := 0, slots := 0, locals := 147 }
theorem cd_M_stateBy : cwd y_M_stateBy 2 := by decide +kernel
theorem d_M_stateBy_0 : decode prog_13_method_68_code 0 = .ok (.aload_n 0, 1) := by decide +kernel
theorem d_M_stateBy_1 : decode prog_13_method_68_code 1 = .ok (.invokevirtual 265, 3) := by decide +kernel
theorem d_M_stateBy_4 : decode prog_13_method_68_code 4 = .ok (.istore_n 3, 1) := by decide +kernel
theorem d_M_stateBy_5 : decode prog_13_method_68_code 5 = .ok (.iload_n 2, 1) := by decide +kernel
theorem d_M_stateBy_6 : decode prog_13_method_68_code 6 = .ok (.iconst 1, 1) := by decide +kernel
theorem d_M_stateBy_7 : decode prog_13_method_68_code 7 = .ok (.isub, 1) := by decide +kernel
theorem d_M_stateBy_8 : decode prog_13_method_68_code 8 = .ok (.istore 4, 2) := by decide +kernel
theorem d_M_stateBy_10 : decode prog_13_method_68_code 10 = .ok (.iload 4, 2) := by decide +kernel
theorem d_M_stateBy_12 : decode prog_13_method_68_code 12 = .ok (.ifCond .lt 34, 3) := by decide +kernel
theorem d_M_stateBy_15 : decode prog_13_method_68_code 15 = .ok (.iload_n 1, 1) := by decide +kernel
theorem d_M_stateBy_16 : decode prog_13_method_68_code 16 = .ok (.iconst 4, 1) := by decide +kernel
theorem d_M_stateBy_17 : decode prog_13_method_68_code 17 = .ok (.iload 4, 2) := by decide +kernel
theorem d_M_stateBy_19 : decode prog_13_method_68_code 19 = .ok (.imul, 1) := by decide +kernel
theorem d_M_stateBy_20 : decode prog_13_method_68_code 20 = .ok (.ishr, 1) := by decide +kernel
theorem d_M_stateBy_21 : decode prog_13_method_68_code 21 = .ok (.bipush 15, 2) := by decide +kernel
theorem d_M_stateBy_23 : decode prog_13_method_68_code 23 = .ok (.iand, 1) := by decide +kernel
theorem d_M_stateBy_24 : decode prog_13_method_68_code 24 = .ok (.istore 5, 2) := by decide +kernel
theorem d_M_stateBy_26 : decode prog_13_method_68_code 26 = .ok (.aload_n 0, 1) := by decide +kernel
theorem d_M_stateBy_27 : decode prog_13_method_68_code 27 = .ok (.iload_n 3, 1) := by decide +kernel
theorem d_M_stateBy_28 : decode prog_13_method_68_code 28 = .ok (.iload 5, 2) := by decide +kernel
theorem d_M_stateBy_30 : decode prog_13_method_68_code 30 = .ok (.iconst 4, 1) := by decide +kernel
theorem d_M_stateBy_31 : decode prog_13_method_68_code 31 = .ok (.idiv, 1) := by decide +kernel
theorem d_M_stateBy_32 : decode prog_13_method_68_code 32 = .ok (.iload 5, 2) := by decide +kernel
theorem d_M_stateBy_34 : decode prog_13_method_68_code 34 = .ok (.iconst 4, 1) := by decide +kernel
theorem d_M_stateBy_35 : decode prog_13_method_68_code 35 = .ok (.irem, 1) := by decide +kernel
theorem d_M_stateBy_36 : decode prog_13_method_68_code 36 = .ok (.invokevirtual 247, 3) := by decide +kernel
theorem d_M_stateBy_39 : decode prog_13_method_68_code 39 = .ok (.istore_n 3, 1) := by decide +kernel
theorem d_M_stateBy_40 : decode prog_13_method_68_code 40 = .ok (.iinc 4 (-1), 3) := by decide +kernel
theorem d_M_stateBy_43 : decode prog_13_method_68_code 43 = .ok (.goto (-33), 3) := by decide +kernel
theorem d_M_stateBy_46 : decode prog_13_method_68_code 46 = .ok (.iload_n 3, 1) := by decide +kernel
theorem d_M_stateBy_47 : decode prog_13_method_68_code 47 = .ok (.ireturn, 1) := by decide +kernel
theorem w_M_stateBy_L10 {p : Program} {l : Launch} {e : Env} {s : State} {m : MethodId} {args : Array Value} {below : List Frame} {meth : Method} {c : Code} {K : KT} {A : Nat → Prop} {Q : State → Prop} (C0 : Cx p s m args meth c prog_13_method_68_code "CanoeSidesModel" 6 K A) (hr : meth.sig.returnType = (Option.some Jvm.ClassFile.FieldType.int)) {ad : Nat → Nat} (N : Nat) (x1 : Int32) (x3 : Int32) (x4 : Int32) (h : Hp) {x_ : (Int32 × Int32 × Hp) ⊕ (Int32 × Hp)} (hE : K_M_stateBy_L10 N x1 x3 x4 h = some x_) (hk1 : ∀ z_, x_ = .inl z_ → G p l e rm_M_stateBy s m args below meth c K A WM 6 0 0 Q 10 [(0, .ref (ad 100)), (1, .int x1), (3, .int z_.1), (4, .int z_.2.1)] [] ad z_.2.2) (hk3 : ∀ z_, x_ = .inr z_ → G p l e rm_M_stateBy s m args below meth c K A WM 6 0 0 Q 46 [(3, .int z_.1)] [] ad z_.2) : G p l e rm_M_stateBy s m args below meth c K A WM 6 0 0 Q 10 [(0, .ref (ad 100)), (1, .int x1), (3, .int x3), (4, .int x4)] [] ad h := by
  unfold K_M_stateBy_L10 at hE
  refine g_iload C0 3 d_M_stateBy_10 rfl ?_
  have hB := ite_some hE
  refine g_if_lt C0 (tgt := 46) d_M_stateBy_12 (by decide) (fun c_ => ?_) (fun c_ => ?_)
  · replace hE := hB.1 c_
    refine g_sub [2] (L' := [(3, .int x3)]) rfl ?_
    exact hk3 _ (Option.some.inj hE).symm
  · replace hE := hB.2 c_
    refine g_iload_n C0 1 d_M_stateBy_15 rfl rfl ?_
    refine g_iconst C0 (v := 4) d_M_stateBy_16 (by decide) ?_
    refine g_iload C0 3 d_M_stateBy_17 rfl ?_
    refine g_imul C0 d_M_stateBy_19 ?_
    refine g_ishr C0 d_M_stateBy_20 ?_
    refine g_bipush C0 (v := 15) d_M_stateBy_21 (by decide) ?_
    refine g_iand C0 d_M_stateBy_23 ?_
    obtain ⟨v24, e24, hE⟩ := nm_some hE
    refine g_top e24 ?_
    refine g_istore C0 [(5, .int v24), (0, .ref (ad 100)), (1, .int x1), (3, .int x3), (4, .int x4)] d_M_stateBy_24 (by decide) rfl ?_
    refine g_aload_n C0 1 d_M_stateBy_26 rfl rfl ?_
    refine g_iload_n C0 3 d_M_stateBy_27 rfl rfl ?_
    refine g_iload C0 0 d_M_stateBy_28 rfl ?_
    refine g_iconst C0 (v := 4) d_M_stateBy_30 (by decide) ?_
    refine g_idiv C0 d_M_stateBy_31 (by decide) ?_
    refine g_iload C0 0 d_M_stateBy_32 rfl ?_
    refine g_iconst C0 (v := 4) d_M_stateBy_34 (by decide) ?_
    refine g_irem C0 d_M_stateBy_35 (by decide) ?_
    obtain ⟨v36, h36, z36, hE⟩ := bd2_some hE
    refine g_calli C0 nd_M [100, 101, 102, 103, 104, 105, 106, 107, 108, 109, 110, 111, 112, 113, 114, 115] rfl (sbW_self WM) (runV C0 (m_M_after l K ad h N x3 (v24 / 4) (rm32 v24 4) z36) 3 rfl ⟨t_1398, t_1400, t_69, t_97, t_1401⟩ cd_M_after (by decide) 0 rfl rfl (sbW_self WM) nd_M rfl rfl (Nat.le_of_ble_eq_true rfl) d_M_stateBy_36) ?_
    refine g_mx [100, 101, 102, 103, 104, 105, 106, 107, 108, 109, 110, 111, 112, 113, 114, 115] rfl ?_
    refine g_istore_n C0 [(3, .int v36), (5, .int v24), (0, .ref (ad 100)), (1, .int x1), (4, .int x4)] d_M_stateBy_39 rfl (by decide) rfl ?_
    obtain ⟨v40, e40, hE⟩ := nm_some hE
    refine g_iinc C0 4 [(4, .int v40), (3, .int v36), (5, .int v24), (0, .ref (ad 100)), (1, .int x1)] d_M_stateBy_40 rfl (by rw [e40]; rfl) (by decide) rfl ?_
    refine g_goto C0 (tgt := 10) d_M_stateBy_43 (by decide) ?_
    refine g_sub [3, 4, 1, 0] (L' := [(0, .ref (ad 100)), (1, .int x1), (3, .int v36), (4, .int v40)]) rfl ?_
    exact hk1 _ (Option.some.inj hE).symm
theorem w_M_stateBy {p : Program} {l : Launch} {e : Env} {s : State} {m : MethodId} {args : Array Value} {below : List Frame} {meth : Method} {c : Code} {K : KT} {A : Nat → Prop} (C0 : Cx p s m args meth c prog_13_method_68_code "CanoeSidesModel" 6 K A) (hr : meth.sig.returnType = (Option.some Jvm.ClassFile.FieldType.int)) {ad : Nat → Nat} (N : Nat) (a0 : Int32) (b0 : Int32) (h : Hp) {res : Int32 × Hp} (hE : K_M_stateBy N a0 b0 h = some res) : G p l e rm_M_stateBy s m args below meth c K A WM 6 0 0 (QI s args below K A WM 0 0 ad res.1 res.2) 0 [(0, .ref (ad 100)), (1, .int a0), (2, .int b0)] [] ad h := by
  unfold K_M_stateBy at hE
  refine g_aload_n C0 0 d_M_stateBy_0 rfl rfl ?_
  obtain ⟨v1, z1, hE⟩ := bd_some hE
  refine g_calliP C0 nd_M [100, 101, 102, 103, 104, 105, 106, 107, 108, 109, 110, 111, 112, 113, 114, 115] rfl (sbW_self WM) (runV C0 (m_M_stateNow l K ad h z1) 0 rfl ⟨t_1406, t_1408, t_71, t_97, t_1409⟩ cd_M_stateNow (by decide) 0 rfl rfl (sbW_self WM) nd_M rfl rfl (Nat.le_of_ble_eq_true rfl) d_M_stateBy_1) ?_
  refine g_istore_n C0 [(3, .int v1), (0, .ref (ad 100)), (1, .int a0), (2, .int b0)] d_M_stateBy_4 rfl (by decide) rfl ?_
  refine g_iload_n C0 3 d_M_stateBy_5 rfl rfl ?_
  refine g_iconst C0 (v := 1) d_M_stateBy_6 (by decide) ?_
  refine g_isub C0 d_M_stateBy_7 ?_
  obtain ⟨v8, e8, hE⟩ := nm_some hE
  refine g_top e8 ?_
  refine g_istore C0 [(4, .int v8), (3, .int v1), (0, .ref (ad 100)), (1, .int a0), (2, .int b0)] d_M_stateBy_8 (by decide) rfl ?_
  refine g_sub [2, 3, 1, 0] (L' := [(0, .ref (ad 100)), (1, .int a0), (3, .int v1), (4, .int v8)]) rfl ?_
  obtain ⟨t10, z10, hE⟩ := bd_some hE
  refine loopG (fun z_ : Int32 × Int32 × Hp => K_M_stateBy_L10 N a0 z_.1 z_.2.1 z_.2.2) (fun z_ : Int32 × Int32 × Hp => G p l e rm_M_stateBy s m args below meth c K A WM 6 0 0 _ 10 [(0, .ref (ad 100)), (1, .int a0), (3, .int z_.1), (4, .int z_.2.1)] [] ad z_.2.2) (fun z_ : Int32 × Hp => G p l e rm_M_stateBy s m args below meth c K A WM 6 0 0 _ 46 [(3, .int z_.1)] [] ad z_.2) (fun z_ x_ hz k1 k2 => w_M_stateBy_L10 C0 hr N a0 z_.1 z_.2.1 z_.2.2 hz k1 k2) _ _ _ z10 ?_
  try dsimp only
  refine g_iload_n C0 0 d_M_stateBy_46 rfl rfl ?_
  obtain rfl := Option.some.inj hE
  exact g_iret C0 hr d_M_stateBy_47
theorem m_M_stateBy (l : Launch) (K : KT) (ad : Nat → Nat) (h : Hp) (N : Nat) (a0 : Int32) (b0 : Int32) {res : Int32 × Hp} (hE : K_M_stateBy N a0 b0 h = some res) : ConI l y_M_stateBy prog_13_method_68_code 6 (Option.some Jvm.ClassFile.FieldType.int) rm_M_stateBy K WM ad h [.ref (ad 100), .int a0, .int b0] res.1 res.2 := fun sz =>
  con_start [(0, .ref (ad 100)), (1, .int a0), (2, .int b0)] (by decide +kernel) rfl (Nat.le_of_ble_eq_true rfl) (fun p e s m args below meth c C0 hr hnm hsz => w_M_stateBy C0 hr N a0 b0 h hE)
abbrev y_M_still : MethodName := ⟨"CanoeSidesModel", "still", "(I)I"⟩
abbrev rm_M_still : Room := { frames := 7, cells := 0, slots := 0, locals := 172 }
theorem cd_M_still : cwd y_M_still 1 := by decide +kernel
theorem d_M_still_0 : decode prog_13_method_69_code 0 = .ok (.aload_n 0, 1) := by decide +kernel
theorem d_M_still_1 : decode prog_13_method_69_code 1 = .ok (.invokevirtual 143, 3) := by decide +kernel
theorem d_M_still_4 : decode prog_13_method_69_code 4 = .ok (.ifCond .eq 6, 3) := by decide +kernel
theorem d_M_still_7 : decode prog_13_method_69_code 7 = .ok (.ldc 215, 2) := by decide +kernel
theorem d_M_still_9 : decode prog_13_method_69_code 9 = .ok (.ireturn, 1) := by decide +kernel
theorem d_M_still_10 : decode prog_13_method_69_code 10 = .ok (.aload_n 0, 1) := by decide +kernel
theorem d_M_still_11 : decode prog_13_method_69_code 11 = .ok (.iconst 0, 1) := by decide +kernel
theorem d_M_still_12 : decode prog_13_method_69_code 12 = .ok (.putfield 166, 3) := by decide +kernel
theorem d_M_still_15 : decode prog_13_method_69_code 15 = .ok (.bipush 8, 2) := by decide +kernel
theorem d_M_still_17 : decode prog_13_method_69_code 17 = .ok (.aload_n 0, 1) := by decide +kernel
theorem d_M_still_18 : decode prog_13_method_69_code 18 = .ok (.getfield 7, 3) := by decide +kernel
theorem d_M_still_21 : decode prog_13_method_69_code 21 = .ok (.iconst 0, 1) := by decide +kernel
theorem d_M_still_22 : decode prog_13_method_69_code 22 = .ok (.iaload, 1) := by decide +kernel
theorem d_M_still_23 : decode prog_13_method_69_code 23 = .ok (.imul, 1) := by decide +kernel
theorem d_M_still_24 : decode prog_13_method_69_code 24 = .ok (.aload_n 0, 1) := by decide +kernel
theorem d_M_still_25 : decode prog_13_method_69_code 25 = .ok (.getfield 7, 3) := by decide +kernel
theorem d_M_still_28 : decode prog_13_method_69_code 28 = .ok (.iconst 1, 1) := by decide +kernel
theorem d_M_still_29 : decode prog_13_method_69_code 29 = .ok (.iaload, 1) := by decide +kernel
theorem d_M_still_30 : decode prog_13_method_69_code 30 = .ok (.iadd, 1) := by decide +kernel
theorem d_M_still_31 : decode prog_13_method_69_code 31 = .ok (.istore_n 2, 1) := by decide +kernel
theorem d_M_still_32 : decode prog_13_method_69_code 32 = .ok (.iconst 1, 1) := by decide +kernel
theorem d_M_still_33 : decode prog_13_method_69_code 33 = .ok (.istore_n 3, 1) := by decide +kernel
theorem d_M_still_34 : decode prog_13_method_69_code 34 = .ok (.iload_n 3, 1) := by decide +kernel
theorem d_M_still_35 : decode prog_13_method_69_code 35 = .ok (.iconst 4, 1) := by decide +kernel
theorem d_M_still_36 : decode prog_13_method_69_code 36 = .ok (.if_icmp .ge 84, 3) := by decide +kernel
theorem d_M_still_39 : decode prog_13_method_69_code 39 = .ok (.iconst 0, 1) := by decide +kernel
theorem d_M_still_40 : decode prog_13_method_69_code 40 = .ok (.istore 4, 2) := by decide +kernel
theorem d_M_still_42 : decode prog_13_method_69_code 42 = .ok (.iload 4, 2) := by decide +kernel
theorem d_M_still_44 : decode prog_13_method_69_code 44 = .ok (.iconst 1, 1) := by decide +kernel
theorem d_M_still_45 : decode prog_13_method_69_code 45 = .ok (.iconst 4, 1) := by decide +kernel
theorem d_M_still_46 : decode prog_13_method_69_code 46 = .ok (.iload_n 3, 1) := by decide +kernel
theorem d_M_still_47 : decode prog_13_method_69_code 47 = .ok (.imul, 1) := by decide +kernel
theorem d_M_still_48 : decode prog_13_method_69_code 48 = .ok (.ishl, 1) := by decide +kernel
theorem d_M_still_49 : decode prog_13_method_69_code 49 = .ok (.if_icmp .ge 65, 3) := by decide +kernel
theorem d_M_still_52 : decode prog_13_method_69_code 52 = .ok (.aload_n 0, 1) := by decide +kernel
theorem d_M_still_53 : decode prog_13_method_69_code 53 = .ok (.iload 4, 2) := by decide +kernel
theorem d_M_still_55 : decode prog_13_method_69_code 55 = .ok (.iload_n 3, 1) := by decide +kernel
theorem d_M_still_56 : decode prog_13_method_69_code 56 = .ok (.invokevirtual 293, 3) := by decide +kernel
theorem d_M_still_59 : decode prog_13_method_69_code 59 = .ok (.aload_n 0, 1) := by decide +kernel
theorem d_M_still_60 : decode prog_13_method_69_code 60 = .ok (.invokevirtual 234, 3) := by decide +kernel
theorem d_M_still_63 : decode prog_13_method_69_code 63 = .ok (.idiv, 1) := by decide +kernel
theorem d_M_still_64 : decode prog_13_method_69_code 64 = .ok (.iload_n 2, 1) := by decide +kernel
theorem d_M_still_65 : decode prog_13_method_69_code 65 = .ok (.if_icmp .ne 43, 3) := by decide +kernel
theorem d_M_still_68 : decode prog_13_method_69_code 68 = .ok (.iload_n 1, 1) := by decide +kernel
theorem d_M_still_69 : decode prog_13_method_69_code 69 = .ok (.iconst (-1), 1) := by decide +kernel
theorem d_M_still_70 : decode prog_13_method_69_code 70 = .ok (.if_icmp .ne 7, 3) := by decide +kernel
theorem d_M_still_73 : decode prog_13_method_69_code 73 = .ok (.iload_n 3, 1) := by decide +kernel
theorem d_M_still_74 : decode prog_13_method_69_code 74 = .ok (.goto 33, 3) := by decide +kernel
theorem d_M_still_77 : decode prog_13_method_69_code 77 = .ok (.iload_n 1, 1) := by decide +kernel
theorem d_M_still_78 : decode prog_13_method_69_code 78 = .ok (.i2l, 1) := by decide +kernel
theorem d_M_still_79 : decode prog_13_method_69_code 79 = .ok (.lconst 0, 1) := by decide +kernel
theorem d_M_still_80 : decode prog_13_method_69_code 80 = .ok (.iload_n 3, 1) := by decide +kernel
theorem d_M_still_81 : decode prog_13_method_69_code 81 = .ok (.iconst 1, 1) := by decide +kernel
theorem d_M_still_82 : decode prog_13_method_69_code 82 = .ok (.isub, 1) := by decide +kernel
theorem d_M_still_83 : decode prog_13_method_69_code 83 = .ok (.i2l, 1) := by decide +kernel
theorem d_M_still_84 : decode prog_13_method_69_code 84 = .ok (.invokestatic 67, 3) := by decide +kernel
theorem d_M_still_87 : decode prog_13_method_69_code 87 = .ok (.ifCond .eq 19, 3) := by decide +kernel
theorem d_M_still_90 : decode prog_13_method_69_code 90 = .ok (.iload 4, 2) := by decide +kernel
theorem d_M_still_92 : decode prog_13_method_69_code 92 = .ok (.iconst 4, 1) := by decide +kernel
theorem d_M_still_93 : decode prog_13_method_69_code 93 = .ok (.iload_n 3, 1) := by decide +kernel
theorem d_M_still_94 : decode prog_13_method_69_code 94 = .ok (.iconst 1, 1) := by decide +kernel
theorem d_M_still_95 : decode prog_13_method_69_code 95 = .ok (.isub, 1) := by decide +kernel
theorem d_M_still_96 : decode prog_13_method_69_code 96 = .ok (.iload_n 1, 1) := by decide +kernel
theorem d_M_still_97 : decode prog_13_method_69_code 97 = .ok (.isub, 1) := by decide +kernel
theorem d_M_still_98 : decode prog_13_method_69_code 98 = .ok (.imul, 1) := by decide +kernel
theorem d_M_still_99 : decode prog_13_method_69_code 99 = .ok (.ishr, 1) := by decide +kernel
theorem d_M_still_100 : decode prog_13_method_69_code 100 = .ok (.bipush 15, 2) := by decide +kernel
theorem d_M_still_102 : decode prog_13_method_69_code 102 = .ok (.iand, 1) := by decide +kernel
theorem d_M_still_103 : decode prog_13_method_69_code 103 = .ok (.goto 4, 3) := by decide +kernel
theorem d_M_still_106 : decode prog_13_method_69_code 106 = .ok (.iconst (-1), 1) := by decide +kernel
theorem d_M_still_107 : decode prog_13_method_69_code 107 = .ok (.ireturn, 1) := by decide +kernel
theorem d_M_still_108 : decode prog_13_method_69_code 108 = .ok (.iinc 4 1, 3) := by decide +kernel
theorem d_M_still_111 : decode prog_13_method_69_code 111 = .ok (.goto (-69), 3) := by decide +kernel
theorem d_M_still_114 : decode prog_13_method_69_code 114 = .ok (.iinc 3 1, 3) := by decide +kernel
theorem d_M_still_117 : decode prog_13_method_69_code 117 = .ok (.goto (-83), 3) := by decide +kernel
theorem d_M_still_120 : decode prog_13_method_69_code 120 = .ok (.iconst (-1), 1) := by decide +kernel
theorem d_M_still_121 : decode prog_13_method_69_code 121 = .ok (.ireturn, 1) := by decide +kernel
theorem w_M_still_L42 {p : Program} {l : Launch} {e : Env} {s : State} {m : MethodId} {args : Array Value} {below : List Frame} {meth : Method} {c : Code} {K : KT} {A : Nat → Prop} {Q : State → Prop} (C0 : Cx p s m args meth c prog_13_method_69_code "CanoeSidesModel" 5 K A) (hr : meth.sig.returnType = (Option.some Jvm.ClassFile.FieldType.int)) {ad : Nat → Nat} (N : Nat) (x1 : Int32) (x2 : Int32) (x3 : Int32) (x4 : Int32) (h : Hp) {x_ : (Int32 × Hp) ⊕ (Int32 × Hp) ⊕ (Hp)} (hE : K_M_still_L42 N x1 x2 x3 x4 h = some x_) (hk1 : ∀ z_, x_ = .inl z_ → G p l e rm_M_still s m args below meth c K A WM 5 0 0 Q 42 [(0, .ref (ad 100)), (1, .int x1), (2, .int x2), (3, .int x3), (4, .int z_.1)] [] ad z_.2) (hk2 : ∀ r_, x_ = .inr (.inl r_) → Q = (QI s args below K A WM 0 0 ad r_.1 r_.2)) (hk3 : ∀ z_, x_ = .inr (.inr z_) → G p l e rm_M_still s m args below meth c K A WM 5 0 0 Q 114 [(0, .ref (ad 100)), (1, .int x1), (2, .int x2), (3, .int x3)] [] ad z_) : G p l e rm_M_still s m args below meth c K A WM 5 0 0 Q 42 [(0, .ref (ad 100)), (1, .int x1), (2, .int x2), (3, .int x3), (4, .int x4)] [] ad h := by
  unfold K_M_still_L42 at hE
  refine g_iload C0 4 d_M_still_42 rfl ?_
  refine g_iconst C0 (v := 1) d_M_still_44 (by decide) ?_
  refine g_iconst C0 (v := 4) d_M_still_45 (by decide) ?_
  refine g_iload_n C0 3 d_M_still_46 rfl rfl ?_
  refine g_imul C0 d_M_still_47 ?_
  refine g_ishl C0 d_M_still_48 ?_
  have hB := ite_some hE
  refine g_icmp_ge C0 (tgt := 114) d_M_still_49 (by decide) (fun c_ => ?_) (fun c_ => ?_)
  · replace hE := hB.1 c_
    refine g_sub [0, 1, 2, 3] (L' := [(0, .ref (ad 100)), (1, .int x1), (2, .int x2), (3, .int x3)]) rfl ?_
    exact hk3 _ (Option.some.inj hE).symm
  · replace hE := hB.2 c_
    refine g_aload_n C0 0 d_M_still_52 rfl rfl ?_
    refine g_iload C0 4 d_M_still_53 rfl ?_
    refine g_iload_n C0 3 d_M_still_55 rfl rfl ?_
    obtain ⟨v56, h56, z56, hE⟩ := bd2_some hE
    refine g_calli C0 nd_M [100, 101, 102, 103, 104, 105, 106, 107, 108, 109, 110, 111, 112, 113, 114, 115] rfl (sbW_self WM) (runV C0 (m_M_stateBy l K ad h N x4 x3 z56) 2 rfl ⟨t_1462, t_1464, t_76, t_97, t_1465⟩ cd_M_stateBy (by decide) 0 rfl rfl (sbW_self WM) nd_M rfl rfl (Nat.le_of_ble_eq_true rfl) d_M_still_56) ?_
    refine g_mx [100, 101, 102, 103, 104, 105, 106, 107, 108, 109, 110, 111, 112, 113, 114, 115] rfl ?_
    refine g_aload_n C0 0 d_M_still_59 rfl rfl ?_
    obtain ⟨v60, z60, hE⟩ := bd_some hE
    refine g_calliP C0 nd_M [100, 101, 102, 103, 104, 105, 106, 107, 108, 109, 110, 111, 112, 113, 114, 115] rfl (sbW_self WM) (runV C0 (m_M_times l K ad h56 z60) 0 rfl ⟨t_1385, t_1387, t_66, t_97, t_1388⟩ cd_M_times (by decide) 0 rfl rfl (sbW_self WM) nd_M rfl rfl (Nat.le_of_ble_eq_true rfl) d_M_still_60) ?_
    obtain ⟨q63, hE⟩ := dz_some hE
    refine g_idiv C0 d_M_still_63 q63 ?_
    refine g_iload_n C0 2 d_M_still_64 rfl rfl ?_
    have hB := ite_some hE
    refine g_icmp_ne C0 (tgt := 108) d_M_still_65 (by decide) (fun c_ => ?_) (fun c_ => ?_)
    · replace hE := hB.2 c_
      obtain ⟨v108, e108, hE⟩ := nm_some hE
      refine g_iinc C0 4 [(4, .int v108), (0, .ref (ad 100)), (1, .int x1), (2, .int x2), (3, .int x3)] d_M_still_108 rfl (by rw [e108]; rfl) (by decide) rfl ?_
      refine g_goto C0 (tgt := 42) d_M_still_111 (by decide) ?_
      refine g_sub [1, 2, 3, 4, 0] (L' := [(0, .ref (ad 100)), (1, .int x1), (2, .int x2), (3, .int x3), (4, .int v108)]) rfl ?_
      exact hk1 _ (Option.some.inj hE).symm
    · replace hE := hB.1 c_
      refine g_iload_n C0 1 d_M_still_68 rfl rfl ?_
      refine g_iconst C0 (v := (-1)) d_M_still_69 (by decide) ?_
      have hB := ite_some hE
      refine g_icmp_ne C0 (tgt := 77) d_M_still_70 (by decide) (fun c_ => ?_) (fun c_ => ?_)
      · replace hE := hB.2 c_
        refine g_iload_n C0 1 d_M_still_77 rfl rfl ?_
        refine g_i2l C0 d_M_still_78 ?_
        refine g_lconst C0 (v := 0) d_M_still_79 (by decide) ?_
        refine g_iload_n C0 3 d_M_still_80 rfl rfl ?_
        refine g_iconst C0 (v := 1) d_M_still_81 (by decide) ?_
        refine g_isub C0 d_M_still_82 ?_
        refine g_i2l C0 d_M_still_83 ?_
        obtain ⟨v84, z84, hE⟩ := bd_some hE
        refine g_calliP C0 nd_M [] rfl (sb_E_M) (runS C0 (m_M_in l K ad h56 (Int32.toInt64 x1) 0 (Int32.toInt64 (x3 - 1)) z84) 3 ⟨t_1196, t_1197, t_97, t_1198⟩ cd_M_in (by decide) (sb_E_M) nd_E rfl rfl (Nat.le_of_ble_eq_true rfl) d_M_still_84) ?_
        have hB := ite_some hE
        refine g_if_eq C0 (tgt := 106) d_M_still_87 (by decide) (fun c_ => ?_) (fun c_ => ?_)
        · replace hE := hB.1 c_
          refine g_iconst C0 (v := (-1)) d_M_still_106 (by decide) ?_
          have hq := hk2 _ (Option.some.inj hE).symm
          rw [hq]
          exact g_iret C0 hr d_M_still_107
        · replace hE := hB.2 c_
          refine g_iload C0 4 d_M_still_90 rfl ?_
          refine g_iconst C0 (v := 4) d_M_still_92 (by decide) ?_
          refine g_iload_n C0 3 d_M_still_93 rfl rfl ?_
          refine g_iconst C0 (v := 1) d_M_still_94 (by decide) ?_
          refine g_isub C0 d_M_still_95 ?_
          refine g_iload_n C0 1 d_M_still_96 rfl rfl ?_
          refine g_isub C0 d_M_still_97 ?_
          refine g_imul C0 d_M_still_98 ?_
          refine g_ishr C0 d_M_still_99 ?_
          refine g_bipush C0 (v := 15) d_M_still_100 (by decide) ?_
          refine g_iand C0 d_M_still_102 ?_
          refine g_goto C0 (tgt := 107) d_M_still_103 (by decide) ?_
          have hq := hk2 _ (Option.some.inj hE).symm
          rw [hq]
          exact g_iret C0 hr d_M_still_107
      · replace hE := hB.1 c_
        refine g_iload_n C0 3 d_M_still_73 rfl rfl ?_
        refine g_goto C0 (tgt := 107) d_M_still_74 (by decide) ?_
        have hq := hk2 _ (Option.some.inj hE).symm
        rw [hq]
        exact g_iret C0 hr d_M_still_107
theorem w_M_still_L34 {p : Program} {l : Launch} {e : Env} {s : State} {m : MethodId} {args : Array Value} {below : List Frame} {meth : Method} {c : Code} {K : KT} {A : Nat → Prop} {Q : State → Prop} (C0 : Cx p s m args meth c prog_13_method_69_code "CanoeSidesModel" 5 K A) (hr : meth.sig.returnType = (Option.some Jvm.ClassFile.FieldType.int)) {ad : Nat → Nat} (N : Nat) (x1 : Int32) (x2 : Int32) (x3 : Int32) (h : Hp) {x_ : (Int32 × Hp) ⊕ (Int32 × Hp) ⊕ (Hp)} (hE : K_M_still_L34 N x1 x2 x3 h = some x_) (hk1 : ∀ z_, x_ = .inl z_ → G p l e rm_M_still s m args below meth c K A WM 5 0 0 Q 34 [(0, .ref (ad 100)), (1, .int x1), (2, .int x2), (3, .int z_.1)] [] ad z_.2) (hk2 : ∀ r_, x_ = .inr (.inl r_) → Q = (QI s args below K A WM 0 0 ad r_.1 r_.2)) (hk3 : ∀ z_, x_ = .inr (.inr z_) → G p l e rm_M_still s m args below meth c K A WM 5 0 0 Q 120 [] [] ad z_) : G p l e rm_M_still s m args below meth c K A WM 5 0 0 Q 34 [(0, .ref (ad 100)), (1, .int x1), (2, .int x2), (3, .int x3)] [] ad h := by
  unfold K_M_still_L34 at hE
  refine g_iload_n C0 3 d_M_still_34 rfl rfl ?_
  refine g_iconst C0 (v := 4) d_M_still_35 (by decide) ?_
  have hB := ite_some hE
  refine g_icmp_ge C0 (tgt := 120) d_M_still_36 (by decide) (fun c_ => ?_) (fun c_ => ?_)
  · replace hE := hB.1 c_
    refine g_sub [] (L' := []) rfl ?_
    exact hk3 _ (Option.some.inj hE).symm
  · replace hE := hB.2 c_
    refine g_iconst C0 (v := 0) d_M_still_39 (by decide) ?_
    refine g_istore C0 [(4, .int 0), (0, .ref (ad 100)), (1, .int x1), (2, .int x2), (3, .int x3)] d_M_still_40 (by decide) rfl ?_
    refine g_sub [1, 2, 3, 4, 0] (L' := [(0, .ref (ad 100)), (1, .int x1), (2, .int x2), (3, .int x3), (4, .int 0)]) rfl ?_
    obtain ⟨t42, z42, hE⟩ := bd_some hE
    refine loopG (fun z_ : Int32 × Hp => K_M_still_L42 N x1 x2 x3 z_.1 z_.2) (fun z_ : Int32 × Hp => G p l e rm_M_still s m args below meth c K A WM 5 0 0 _ 42 [(0, .ref (ad 100)), (1, .int x1), (2, .int x2), (3, .int x3), (4, .int z_.1)] [] ad z_.2) (fun z_ : (Int32 × Hp) ⊕ (Hp) => (∀ r_, z_ = .inl r_ → _ = (QI s args below K A WM 0 0 ad r_.1 r_.2)) ∧ (∀ y_, z_ = .inr y_ → G p l e rm_M_still s m args below meth c K A WM 5 0 0 _ 114 [(0, .ref (ad 100)), (1, .int x1), (2, .int x2), (3, .int x3)] [] ad y_)) (fun z_ x_ hz k1 k2 => w_M_still_L42 C0 hr N x1 x2 x3 z_.1 z_.2 hz k1 (fun r_ hr_ => (k2 _ hr_).1 _ rfl) (fun y_ hy_ => (k2 _ hy_).2 _ rfl)) _ _ _ z42 ?_
    refine ⟨fun r_ e_ => ?_, fun t42x e_ => ?_⟩
    · subst e_
      replace hE := el_inl hE
      exact hk2 _ (Option.some.inj hE).symm
    · subst e_
      replace hE := el_inr hE
      try dsimp only
      obtain ⟨v114, e114, hE⟩ := nm_some hE
      refine g_iinc C0 3 [(3, .int v114), (0, .ref (ad 100)), (1, .int x1), (2, .int x2)] d_M_still_114 rfl (by rw [e114]; rfl) (by decide) rfl ?_
      refine g_goto C0 (tgt := 34) d_M_still_117 (by decide) ?_
      refine g_sub [1, 2, 3, 0] (L' := [(0, .ref (ad 100)), (1, .int x1), (2, .int x2), (3, .int v114)]) rfl ?_
      exact hk1 _ (Option.some.inj hE).symm
theorem w_M_still {p : Program} {l : Launch} {e : Env} {s : State} {m : MethodId} {args : Array Value} {below : List Frame} {meth : Method} {c : Code} {K : KT} {A : Nat → Prop} (C0 : Cx p s m args meth c prog_13_method_69_code "CanoeSidesModel" 5 K A) (hr : meth.sig.returnType = (Option.some Jvm.ClassFile.FieldType.int)) {ad : Nat → Nat} (N : Nat) (a0 : Int32) (h : Hp) {res : Int32 × Hp} (hE : K_M_still N a0 h = some res) : G p l e rm_M_still s m args below meth c K A WM 5 0 0 (QI s args below K A WM 0 0 ad res.1 res.2) 0 [(0, .ref (ad 100)), (1, .int a0)] [] ad h := by
  unfold K_M_still at hE
  refine g_aload_n C0 0 d_M_still_0 rfl rfl ?_
  obtain ⟨v1, z1, hE⟩ := bd_some hE
  refine g_calliP C0 nd_M [100, 101, 102, 103, 104, 105, 106, 107, 108, 109, 110, 111, 112, 113, 114, 115] rfl (sbW_self WM) (runV C0 (m_M_isNone l K ad h z1) 0 rfl ⟨t_1264, t_1266, t_51, t_97, t_1267⟩ cd_M_isNone (by decide) 0 rfl rfl (sbW_self WM) nd_M rfl rfl (Nat.le_of_ble_eq_true rfl) d_M_still_1) ?_
  have hB := ite_some hE
  refine g_if_eq C0 (tgt := 10) d_M_still_4 (by decide) (fun c_ => ?_) (fun c_ => ?_)
  · replace hE := hB.1 c_
    refine g_aload_n C0 0 d_M_still_10 rfl rfl ?_
    refine g_iconst C0 (v := 0) d_M_still_11 (by decide) ?_
    obtain ⟨h12, e12, hE⟩ := nm_some hE
    refine g_puti C0 CK_11 CT_11 12 (by decide) t_1102 rfl (by decide +kernel) nd_M 0 rfl rfl d_M_still_12 ?_
    refine g_heap e12 ?_
    refine g_bipush C0 (v := 8) d_M_still_15 (by decide) ?_
    refine g_aload_n C0 0 d_M_still_17 rfl rfl ?_
    refine g_getr C0 CK_11 0 (by decide) t_1090 0 rfl rfl d_M_still_18 ?_
    refine g_iconst C0 (v := 0) d_M_still_21 (by decide) ?_
    obtain ⟨q22, v22, e22, hE⟩ := gA_some hE
    refine g_iald C0 1 rfl q22 d_M_still_22 ?_
    refine g_top e22 ?_
    refine g_imul C0 d_M_still_23 ?_
    refine g_aload_n C0 0 d_M_still_24 rfl rfl ?_
    refine g_getr C0 CK_11 0 (by decide) t_1090 0 rfl rfl d_M_still_25 ?_
    refine g_iconst C0 (v := 1) d_M_still_28 (by decide) ?_
    obtain ⟨q29, v29, e29, hE⟩ := gA_some hE
    refine g_iald C0 1 rfl q29 d_M_still_29 ?_
    refine g_top e29 ?_
    refine g_iadd C0 d_M_still_30 ?_
    obtain ⟨v31, e31, hE⟩ := nm_some hE
    refine g_top e31 ?_
    refine g_istore_n C0 [(2, .int v31), (0, .ref (ad 100)), (1, .int a0)] d_M_still_31 rfl (by decide) rfl ?_
    refine g_iconst C0 (v := 1) d_M_still_32 (by decide) ?_
    refine g_istore_n C0 [(3, .int 1), (2, .int v31), (0, .ref (ad 100)), (1, .int a0)] d_M_still_33 rfl (by decide) rfl ?_
    refine g_sub [2, 3, 1, 0] (L' := [(0, .ref (ad 100)), (1, .int a0), (2, .int v31), (3, .int 1)]) rfl ?_
    obtain ⟨t34, z34, hE⟩ := bd_some hE
    refine loopG (fun z_ : Int32 × Hp => K_M_still_L34 N a0 v31 z_.1 z_.2) (fun z_ : Int32 × Hp => G p l e rm_M_still s m args below meth c K A WM 5 0 0 _ 34 [(0, .ref (ad 100)), (1, .int a0), (2, .int v31), (3, .int z_.1)] [] ad z_.2) (fun z_ : (Int32 × Hp) ⊕ (Hp) => (∀ r_, z_ = .inl r_ → _ = (QI s args below K A WM 0 0 ad r_.1 r_.2)) ∧ (∀ y_, z_ = .inr y_ → G p l e rm_M_still s m args below meth c K A WM 5 0 0 _ 120 [] [] ad y_)) (fun z_ x_ hz k1 k2 => w_M_still_L34 C0 hr N a0 v31 z_.1 z_.2 hz k1 (fun r_ hr_ => (k2 _ hr_).1 _ rfl) (fun y_ hy_ => (k2 _ hy_).2 _ rfl)) _ _ _ z34 ?_
    refine ⟨fun r_ e_ => ?_, fun t34x e_ => ?_⟩
    · subst e_
      replace hE := el_inl hE
      exact Option.some.inj hE ▸ rfl
    · subst e_
      replace hE := el_inr hE
      try dsimp only
      refine g_iconst C0 (v := (-1)) d_M_still_120 (by decide) ?_
      obtain rfl := Option.some.inj hE
      exact g_iret C0 hr d_M_still_121
  · replace hE := hB.2 c_
    refine g_ldc C0 (v := (-1000000003)) t_1296 d_M_still_7 ?_
    obtain rfl := Option.some.inj hE
    exact g_iret C0 hr d_M_still_9
theorem m_M_still (l : Launch) (K : KT) (ad : Nat → Nat) (h : Hp) (N : Nat) (a0 : Int32) {res : Int32 × Hp} (hE : K_M_still N a0 h = some res) : ConI l y_M_still prog_13_method_69_code 5 (Option.some Jvm.ClassFile.FieldType.int) rm_M_still K WM ad h [.ref (ad 100), .int a0] res.1 res.2 := fun sz =>
  con_start [(0, .ref (ad 100)), (1, .int a0)] (by decide +kernel) rfl (Nat.le_of_ble_eq_true rfl) (fun p e s m args below meth c C0 hr hnm hsz => w_M_still C0 hr N a0 h hE)
abbrev y_M_worst : MethodName := ⟨"CanoeSidesModel", "worst", "(III)I"⟩
abbrev rm_M_worst : Room := { frames := 5, cells := 0, slots := 0, locals := 122 }
theorem cd_M_worst : cwd y_M_worst 3 := by decide +kernel
theorem d_M_worst_0 : decode prog_13_method_70_code 0 = .ok (.aload_n 0, 1) := by decide +kernel
theorem d_M_worst_1 : decode prog_13_method_70_code 1 = .ok (.iload_n 1, 1) := by decide +kernel
theorem d_M_worst_2 : decode prog_13_method_70_code 2 = .ok (.bipush 8, 2) := by decide +kernel
theorem d_M_worst_4 : decode prog_13_method_70_code 4 = .ok (.idiv, 1) := by decide +kernel
theorem d_M_worst_5 : decode prog_13_method_70_code 5 = .ok (.iload_n 1, 1) := by decide +kernel
theorem d_M_worst_6 : decode prog_13_method_70_code 6 = .ok (.bipush 8, 2) := by decide +kernel
theorem d_M_worst_8 : decode prog_13_method_70_code 8 = .ok (.irem, 1) := by decide +kernel
theorem d_M_worst_9 : decode prog_13_method_70_code 9 = .ok (.iload_n 2, 1) := by decide +kernel
theorem d_M_worst_10 : decode prog_13_method_70_code 10 = .ok (.iload_n 3, 1) := by decide +kernel
theorem d_M_worst_11 : decode prog_13_method_70_code 11 = .ok (.invokevirtual 204, 3) := by decide +kernel
theorem d_M_worst_14 : decode prog_13_method_70_code 14 = .ok (.aload_n 0, 1) := by decide +kernel
theorem d_M_worst_15 : decode prog_13_method_70_code 15 = .ok (.getfield 46, 3) := by decide +kernel
theorem d_M_worst_18 : decode prog_13_method_70_code 18 = .ok (.bipush 8, 2) := by decide +kernel
theorem d_M_worst_20 : decode prog_13_method_70_code 20 = .ok (.aload_n 0, 1) := by decide +kernel
theorem d_M_worst_21 : decode prog_13_method_70_code 21 = .ok (.getfield 195, 3) := by decide +kernel
theorem d_M_worst_24 : decode prog_13_method_70_code 24 = .ok (.imul, 1) := by decide +kernel
theorem d_M_worst_25 : decode prog_13_method_70_code 25 = .ok (.aload_n 0, 1) := by decide +kernel
theorem d_M_worst_26 : decode prog_13_method_70_code 26 = .ok (.getfield 189, 3) := by decide +kernel
theorem d_M_worst_29 : decode prog_13_method_70_code 29 = .ok (.iadd, 1) := by decide +kernel
theorem d_M_worst_30 : decode prog_13_method_70_code 30 = .ok (.iaload, 1) := by decide +kernel
theorem d_M_worst_31 : decode prog_13_method_70_code 31 = .ok (.istore 4, 2) := by decide +kernel
theorem d_M_worst_33 : decode prog_13_method_70_code 33 = .ok (.aload_n 0, 1) := by decide +kernel
theorem d_M_worst_34 : decode prog_13_method_70_code 34 = .ok (.getfield 46, 3) := by decide +kernel
theorem d_M_worst_37 : decode prog_13_method_70_code 37 = .ok (.bipush 8, 2) := by decide +kernel
theorem d_M_worst_39 : decode prog_13_method_70_code 39 = .ok (.aload_n 0, 1) := by decide +kernel
theorem d_M_worst_40 : decode prog_13_method_70_code 40 = .ok (.aload_n 0, 1) := by decide +kernel
theorem d_M_worst_41 : decode prog_13_method_70_code 41 = .ok (.getfield 195, 3) := by decide +kernel
theorem d_M_worst_44 : decode prog_13_method_70_code 44 = .ok (.aload_n 0, 1) := by decide +kernel
theorem d_M_worst_45 : decode prog_13_method_70_code 45 = .ok (.getfield 20, 3) := by decide +kernel
theorem d_M_worst_48 : decode prog_13_method_70_code 48 = .ok (.bipush 10, 2) := by decide +kernel
theorem d_M_worst_50 : decode prog_13_method_70_code 50 = .ok (.iaload, 1) := by decide +kernel
theorem d_M_worst_51 : decode prog_13_method_70_code 51 = .ok (.invokevirtual 198, 3) := by decide +kernel
theorem d_M_worst_54 : decode prog_13_method_70_code 54 = .ok (.imul, 1) := by decide +kernel
theorem d_M_worst_55 : decode prog_13_method_70_code 55 = .ok (.aload_n 0, 1) := by decide +kernel
theorem d_M_worst_56 : decode prog_13_method_70_code 56 = .ok (.getfield 189, 3) := by decide +kernel
theorem d_M_worst_59 : decode prog_13_method_70_code 59 = .ok (.iadd, 1) := by decide +kernel
theorem d_M_worst_60 : decode prog_13_method_70_code 60 = .ok (.iaload, 1) := by decide +kernel
theorem d_M_worst_61 : decode prog_13_method_70_code 61 = .ok (.istore 5, 2) := by decide +kernel
theorem d_M_worst_63 : decode prog_13_method_70_code 63 = .ok (.iload 4, 2) := by decide +kernel
theorem d_M_worst_65 : decode prog_13_method_70_code 65 = .ok (.iload 5, 2) := by decide +kernel
theorem d_M_worst_67 : decode prog_13_method_70_code 67 = .ok (.if_icmp .le 8, 3) := by decide +kernel
theorem d_M_worst_70 : decode prog_13_method_70_code 70 = .ok (.iload 4, 2) := by decide +kernel
theorem d_M_worst_72 : decode prog_13_method_70_code 72 = .ok (.goto 5, 3) := by decide +kernel
theorem d_M_worst_75 : decode prog_13_method_70_code 75 = .ok (.iload 5, 2) := by decide +kernel
theorem d_M_worst_77 : decode prog_13_method_70_code 77 = .ok (.ireturn, 1) := by decide +kernel
theorem w_M_worst {p : Program} {l : Launch} {e : Env} {s : State} {m : MethodId} {args : Array Value} {below : List Frame} {meth : Method} {c : Code} {K : KT} {A : Nat → Prop} (C0 : Cx p s m args meth c prog_13_method_70_code "CanoeSidesModel" 6 K A) (hr : meth.sig.returnType = (Option.some Jvm.ClassFile.FieldType.int)) {ad : Nat → Nat} (N : Nat) (a0 : Int32) (b0 : Int32) (c0 : Int32) (h : Hp) {res : Int32 × Hp} (hE : K_M_worst N a0 b0 c0 h = some res) : G p l e rm_M_worst s m args below meth c K A WM 6 0 0 (QI s args below K A WM 0 0 ad res.1 res.2) 0 [(0, .ref (ad 100)), (1, .int a0), (2, .int b0), (3, .int c0)] [] ad h := by
  unfold K_M_worst at hE
  refine g_aload_n C0 0 d_M_worst_0 rfl rfl ?_
  refine g_iload_n C0 1 d_M_worst_1 rfl rfl ?_
  refine g_bipush C0 (v := 8) d_M_worst_2 (by decide) ?_
  refine g_idiv C0 d_M_worst_4 (by decide) ?_
  refine g_iload_n C0 1 d_M_worst_5 rfl rfl ?_
  refine g_bipush C0 (v := 8) d_M_worst_6 (by decide) ?_
  refine g_irem C0 d_M_worst_8 (by decide) ?_
  refine g_iload_n C0 2 d_M_worst_9 rfl rfl ?_
  refine g_iload_n C0 3 d_M_worst_10 rfl rfl ?_
  obtain ⟨h11, z11, hE⟩ := bd_some hE
  refine g_callv C0 nd_M [100, 101, 102, 103, 104, 105, 106, 107, 108, 109, 110, 111, 112, 113, 114, 115] rfl (sbW_self WM) (runV C0 (m_M_strokeFrom l K ad h N (a0 / 8) (rm32 a0 8) b0 c0 z11) 4 rfl ⟨t_1305, t_1307, t_56, t_97, t_1308⟩ cd_M_strokeFrom (by decide) 0 rfl rfl (sbW_self WM) nd_M rfl rfl (Nat.le_of_ble_eq_true rfl) d_M_worst_11) ?_
  refine g_mx [100, 101, 102, 103, 104, 105, 106, 107, 108, 109, 110, 111, 112, 113, 114, 115] rfl ?_
  refine g_aload_n C0 0 d_M_worst_14 rfl rfl ?_
  refine g_getr C0 CK_11 24 (by decide) t_1114 0 rfl rfl d_M_worst_15 ?_
  refine g_bipush C0 (v := 8) d_M_worst_18 (by decide) ?_
  refine g_aload_n C0 0 d_M_worst_20 rfl rfl ?_
  refine g_geti C0 CK_11 13 (by decide) t_1103 0 rfl rfl d_M_worst_21 ?_
  refine g_imul C0 d_M_worst_24 ?_
  refine g_aload_n C0 0 d_M_worst_25 rfl rfl ?_
  refine g_geti C0 CK_11 14 (by decide) t_1104 0 rfl rfl d_M_worst_26 ?_
  refine g_iadd C0 d_M_worst_29 ?_
  obtain ⟨q30, v30, e30, hE⟩ := gA_some hE
  refine g_iald C0 11 rfl q30 d_M_worst_30 ?_
  refine g_top e30 ?_
  refine g_istore C0 [(4, .int v30), (0, .ref (ad 100)), (1, .int a0), (2, .int b0), (3, .int c0)] d_M_worst_31 (by decide) rfl ?_
  refine g_aload_n C0 1 d_M_worst_33 rfl rfl ?_
  refine g_getr C0 CK_11 24 (by decide) t_1114 0 rfl rfl d_M_worst_34 ?_
  refine g_bipush C0 (v := 8) d_M_worst_37 (by decide) ?_
  refine g_aload_n C0 1 d_M_worst_39 rfl rfl ?_
  refine g_aload_n C0 1 d_M_worst_40 rfl rfl ?_
  refine g_geti C0 CK_11 13 (by decide) t_1103 0 rfl rfl d_M_worst_41 ?_
  refine g_aload_n C0 1 d_M_worst_44 rfl rfl ?_
  refine g_getr C0 CK_11 3 (by decide) t_1093 0 rfl rfl d_M_worst_45 ?_
  refine g_bipush C0 (v := 10) d_M_worst_48 (by decide) ?_
  obtain ⟨q50, v50, e50, hE⟩ := gA_some hE
  refine g_iald C0 4 rfl q50 d_M_worst_50 ?_
  refine g_top e50 ?_
  obtain ⟨v51, z51, hE⟩ := bd_some hE
  refine g_calliP C0 nd_M [100, 101, 102, 103, 104, 105, 106, 107, 108, 109, 110, 111, 112, 113, 114, 115] rfl (sbW_self WM) (runV C0 (m_M_driven l K ad h11 (h11 100 13) v50 z51) 2 rfl ⟨t_1335, t_1337, t_60, t_97, t_1338⟩ cd_M_driven (by decide) 0 rfl rfl (sbW_self WM) nd_M rfl rfl (Nat.le_of_ble_eq_true rfl) d_M_worst_51) ?_
  refine g_imul C0 d_M_worst_54 ?_
  refine g_aload_n C0 1 d_M_worst_55 rfl rfl ?_
  refine g_geti C0 CK_11 14 (by decide) t_1104 0 rfl rfl d_M_worst_56 ?_
  refine g_iadd C0 d_M_worst_59 ?_
  obtain ⟨q60, v60, e60, hE⟩ := gA_some hE
  refine g_iald C0 11 rfl q60 d_M_worst_60 ?_
  refine g_top e60 ?_
  refine g_istore C0 [(5, .int v60), (4, .int v30), (0, .ref (ad 100)), (1, .int a0), (2, .int b0), (3, .int c0)] d_M_worst_61 (by decide) rfl ?_
  refine g_iload C0 1 d_M_worst_63 rfl ?_
  refine g_iload C0 0 d_M_worst_65 rfl ?_
  have hB := ite_some hE
  refine g_icmp_le C0 (tgt := 75) d_M_worst_67 (by decide) (fun c_ => ?_) (fun c_ => ?_)
  · replace hE := hB.1 c_
    refine g_iload C0 0 d_M_worst_75 rfl ?_
    obtain rfl := Option.some.inj hE
    exact g_iret C0 hr d_M_worst_77
  · replace hE := hB.2 c_
    refine g_iload C0 1 d_M_worst_70 rfl ?_
    refine g_goto C0 (tgt := 77) d_M_worst_72 (by decide) ?_
    obtain rfl := Option.some.inj hE
    exact g_iret C0 hr d_M_worst_77
theorem m_M_worst (l : Launch) (K : KT) (ad : Nat → Nat) (h : Hp) (N : Nat) (a0 : Int32) (b0 : Int32) (c0 : Int32) {res : Int32 × Hp} (hE : K_M_worst N a0 b0 c0 h = some res) : ConI l y_M_worst prog_13_method_70_code 6 (Option.some Jvm.ClassFile.FieldType.int) rm_M_worst K WM ad h [.ref (ad 100), .int a0, .int b0, .int c0] res.1 res.2 := fun sz =>
  con_start [(0, .ref (ad 100)), (1, .int a0), (2, .int b0), (3, .int c0)] (by decide +kernel) rfl (Nat.le_of_ble_eq_true rfl) (fun p e s m args below meth c C0 hr hnm hsz => w_M_worst C0 hr N a0 b0 c0 h hE)
abbrev y_M_leastWorst : MethodName := ⟨"CanoeSidesModel", "leastWorst", "(I)I"⟩
abbrev rm_M_leastWorst : Room := { frames := 6, cells := 0, slots := 0, locals := 147 }
theorem cd_M_leastWorst : cwd y_M_leastWorst 1 := by decide +kernel
theorem d_M_leastWorst_0 : decode prog_13_method_71_code 0 = .ok (.ldc 240, 2) := by decide +kernel
theorem d_M_leastWorst_2 : decode prog_13_method_71_code 2 = .ok (.istore_n 2, 1) := by decide +kernel
theorem d_M_leastWorst_3 : decode prog_13_method_71_code 3 = .ok (.iconst 0, 1) := by decide +kernel
theorem d_M_leastWorst_4 : decode prog_13_method_71_code 4 = .ok (.istore_n 3, 1) := by decide +kernel
theorem d_M_leastWorst_5 : decode prog_13_method_71_code 5 = .ok (.iload_n 3, 1) := by decide +kernel
theorem d_M_leastWorst_6 : decode prog_13_method_71_code 6 = .ok (.bipush 16, 2) := by decide +kernel
theorem d_M_leastWorst_8 : decode prog_13_method_71_code 8 = .ok (.if_icmp .ge 35, 3) := by decide +kernel
theorem d_M_leastWorst_11 : decode prog_13_method_71_code 11 = .ok (.aload_n 0, 1) := by decide +kernel
theorem d_M_leastWorst_12 : decode prog_13_method_71_code 12 = .ok (.iload_n 1, 1) := by decide +kernel
theorem d_M_leastWorst_13 : decode prog_13_method_71_code 13 = .ok (.iload_n 3, 1) := by decide +kernel
theorem d_M_leastWorst_14 : decode prog_13_method_71_code 14 = .ok (.iconst 4, 1) := by decide +kernel
theorem d_M_leastWorst_15 : decode prog_13_method_71_code 15 = .ok (.idiv, 1) := by decide +kernel
theorem d_M_leastWorst_16 : decode prog_13_method_71_code 16 = .ok (.iload_n 3, 1) := by decide +kernel
theorem d_M_leastWorst_17 : decode prog_13_method_71_code 17 = .ok (.iconst 4, 1) := by decide +kernel
theorem d_M_leastWorst_18 : decode prog_13_method_71_code 18 = .ok (.irem, 1) := by decide +kernel
theorem d_M_leastWorst_19 : decode prog_13_method_71_code 19 = .ok (.invokevirtual 296, 3) := by decide +kernel
theorem d_M_leastWorst_22 : decode prog_13_method_71_code 22 = .ok (.istore 4, 2) := by decide +kernel
theorem d_M_leastWorst_24 : decode prog_13_method_71_code 24 = .ok (.iload 4, 2) := by decide +kernel
theorem d_M_leastWorst_26 : decode prog_13_method_71_code 26 = .ok (.iload_n 2, 1) := by decide +kernel
theorem d_M_leastWorst_27 : decode prog_13_method_71_code 27 = .ok (.if_icmp .ge 8, 3) := by decide +kernel
theorem d_M_leastWorst_30 : decode prog_13_method_71_code 30 = .ok (.iload 4, 2) := by decide +kernel
theorem d_M_leastWorst_32 : decode prog_13_method_71_code 32 = .ok (.goto 4, 3) := by decide +kernel
theorem d_M_leastWorst_35 : decode prog_13_method_71_code 35 = .ok (.iload_n 2, 1) := by decide +kernel
theorem d_M_leastWorst_36 : decode prog_13_method_71_code 36 = .ok (.istore_n 2, 1) := by decide +kernel
theorem d_M_leastWorst_37 : decode prog_13_method_71_code 37 = .ok (.iinc 3 1, 3) := by decide +kernel
theorem d_M_leastWorst_40 : decode prog_13_method_71_code 40 = .ok (.goto (-35), 3) := by decide +kernel
theorem d_M_leastWorst_43 : decode prog_13_method_71_code 43 = .ok (.iload_n 2, 1) := by decide +kernel
theorem d_M_leastWorst_44 : decode prog_13_method_71_code 44 = .ok (.ireturn, 1) := by decide +kernel
theorem w_M_leastWorst_J36 {p : Program} {l : Launch} {e : Env} {s : State} {m : MethodId} {args : Array Value} {below : List Frame} {meth : Method} {c : Code} {K : KT} {A : Nat → Prop} {Q : State → Prop} (C0 : Cx p s m args meth c prog_13_method_71_code "CanoeSidesModel" 5 K A) (hr : meth.sig.returnType = (Option.some Jvm.ClassFile.FieldType.int)) {ad : Nat → Nat} (N : Nat) (x1 : Int32) (x3 : Int32) (y0 : Int32) (h : Hp) {x_ : (Int32 × Int32 × Hp) ⊕ (Int32 × Hp)} (hE : K_M_leastWorst_J36 N x1 x3 y0 h = some x_) (hk1 : ∀ z_, x_ = .inl z_ → G p l e rm_M_leastWorst s m args below meth c K A WM 5 0 0 Q 5 [(0, .ref (ad 100)), (1, .int x1), (2, .int z_.1), (3, .int z_.2.1)] [] ad z_.2.2) (hk3 : ∀ z_, x_ = .inr z_ → G p l e rm_M_leastWorst s m args below meth c K A WM 5 0 0 Q 43 [(2, .int z_.1)] [] ad z_.2) : G p l e rm_M_leastWorst s m args below meth c K A WM 5 0 0 Q 36 [(0, .ref (ad 100)), (1, .int x1), (3, .int x3)] [.int y0] ad h := by
  unfold K_M_leastWorst_J36 at hE
  refine g_istore_n C0 [(2, .int y0), (0, .ref (ad 100)), (1, .int x1), (3, .int x3)] d_M_leastWorst_36 rfl (by decide) rfl ?_
  obtain ⟨v37, e37, hE⟩ := nm_some hE
  refine g_iinc C0 3 [(3, .int v37), (2, .int y0), (0, .ref (ad 100)), (1, .int x1)] d_M_leastWorst_37 rfl (by rw [e37]; rfl) (by decide) rfl ?_
  refine g_goto C0 (tgt := 5) d_M_leastWorst_40 (by decide) ?_
  refine g_sub [2, 3, 1, 0] (L' := [(0, .ref (ad 100)), (1, .int x1), (2, .int y0), (3, .int v37)]) rfl ?_
  exact hk1 _ (Option.some.inj hE).symm
theorem w_M_leastWorst_L5 {p : Program} {l : Launch} {e : Env} {s : State} {m : MethodId} {args : Array Value} {below : List Frame} {meth : Method} {c : Code} {K : KT} {A : Nat → Prop} {Q : State → Prop} (C0 : Cx p s m args meth c prog_13_method_71_code "CanoeSidesModel" 5 K A) (hr : meth.sig.returnType = (Option.some Jvm.ClassFile.FieldType.int)) {ad : Nat → Nat} (N : Nat) (x1 : Int32) (x2 : Int32) (x3 : Int32) (h : Hp) {x_ : (Int32 × Int32 × Hp) ⊕ (Int32 × Hp)} (hE : K_M_leastWorst_L5 N x1 x2 x3 h = some x_) (hk1 : ∀ z_, x_ = .inl z_ → G p l e rm_M_leastWorst s m args below meth c K A WM 5 0 0 Q 5 [(0, .ref (ad 100)), (1, .int x1), (2, .int z_.1), (3, .int z_.2.1)] [] ad z_.2.2) (hk3 : ∀ z_, x_ = .inr z_ → G p l e rm_M_leastWorst s m args below meth c K A WM 5 0 0 Q 43 [(2, .int z_.1)] [] ad z_.2) : G p l e rm_M_leastWorst s m args below meth c K A WM 5 0 0 Q 5 [(0, .ref (ad 100)), (1, .int x1), (2, .int x2), (3, .int x3)] [] ad h := by
  unfold K_M_leastWorst_L5 at hE
  refine g_iload_n C0 3 d_M_leastWorst_5 rfl rfl ?_
  refine g_bipush C0 (v := 16) d_M_leastWorst_6 (by decide) ?_
  have hB := ite_some hE
  refine g_icmp_ge C0 (tgt := 43) d_M_leastWorst_8 (by decide) (fun c_ => ?_) (fun c_ => ?_)
  · replace hE := hB.1 c_
    refine g_sub [2] (L' := [(2, .int x2)]) rfl ?_
    exact hk3 _ (Option.some.inj hE).symm
  · replace hE := hB.2 c_
    refine g_aload_n C0 0 d_M_leastWorst_11 rfl rfl ?_
    refine g_iload_n C0 1 d_M_leastWorst_12 rfl rfl ?_
    refine g_iload_n C0 3 d_M_leastWorst_13 rfl rfl ?_
    refine g_iconst C0 (v := 4) d_M_leastWorst_14 (by decide) ?_
    refine g_idiv C0 d_M_leastWorst_15 (by decide) ?_
    refine g_iload_n C0 3 d_M_leastWorst_16 rfl rfl ?_
    refine g_iconst C0 (v := 4) d_M_leastWorst_17 (by decide) ?_
    refine g_irem C0 d_M_leastWorst_18 (by decide) ?_
    obtain ⟨v19, h19, z19, hE⟩ := bd2_some hE
    refine g_calli C0 nd_M [100, 101, 102, 103, 104, 105, 106, 107, 108, 109, 110, 111, 112, 113, 114, 115] rfl (sbW_self WM) (runV C0 (m_M_worst l K ad h N x1 (x3 / 4) (rm32 x3 4) z19) 3 rfl ⟨t_1478, t_1480, t_79, t_97, t_1481⟩ cd_M_worst (by decide) 0 rfl rfl (sbW_self WM) nd_M rfl rfl (Nat.le_of_ble_eq_true rfl) d_M_leastWorst_19) ?_
    refine g_mx [100, 101, 102, 103, 104, 105, 106, 107, 108, 109, 110, 111, 112, 113, 114, 115] rfl ?_
    refine g_istore C0 [(4, .int v19), (0, .ref (ad 100)), (1, .int x1), (2, .int x2), (3, .int x3)] d_M_leastWorst_22 (by decide) rfl ?_
    refine g_iload C0 0 d_M_leastWorst_24 rfl ?_
    refine g_iload_n C0 3 d_M_leastWorst_26 rfl rfl ?_
    have hB := ite_some hE
    refine g_icmp_ge C0 (tgt := 35) d_M_leastWorst_27 (by decide) (fun c_ => ?_) (fun c_ => ?_)
    · replace hE := hB.1 c_
      refine g_iload_n C0 3 d_M_leastWorst_35 rfl rfl ?_
      refine g_sub [1, 2, 4] (L' := [(0, .ref (ad 100)), (1, .int x1), (3, .int x3)]) rfl ?_
      exact w_M_leastWorst_J36 C0 hr N x1 x3 x2 h19 hE hk1 hk3
    · replace hE := hB.2 c_
      refine g_iload C0 0 d_M_leastWorst_30 rfl ?_
      refine g_goto C0 (tgt := 36) d_M_leastWorst_32 (by decide) ?_
      refine g_sub [1, 2, 4] (L' := [(0, .ref (ad 100)), (1, .int x1), (3, .int x3)]) rfl ?_
      exact w_M_leastWorst_J36 C0 hr N x1 x3 v19 h19 hE hk1 hk3
theorem w_M_leastWorst {p : Program} {l : Launch} {e : Env} {s : State} {m : MethodId} {args : Array Value} {below : List Frame} {meth : Method} {c : Code} {K : KT} {A : Nat → Prop} (C0 : Cx p s m args meth c prog_13_method_71_code "CanoeSidesModel" 5 K A) (hr : meth.sig.returnType = (Option.some Jvm.ClassFile.FieldType.int)) {ad : Nat → Nat} (N : Nat) (a0 : Int32) (h : Hp) {res : Int32 × Hp} (hE : K_M_leastWorst N a0 h = some res) : G p l e rm_M_leastWorst s m args below meth c K A WM 5 0 0 (QI s args below K A WM 0 0 ad res.1 res.2) 0 [(0, .ref (ad 100)), (1, .int a0)] [] ad h := by
  unfold K_M_leastWorst at hE
  refine g_ldc C0 (v := 99999999) t_1393 d_M_leastWorst_0 ?_
  refine g_istore_n C0 [(2, .int 99999999), (0, .ref (ad 100)), (1, .int a0)] d_M_leastWorst_2 rfl (by decide) rfl ?_
  refine g_iconst C0 (v := 0) d_M_leastWorst_3 (by decide) ?_
  refine g_istore_n C0 [(3, .int 0), (2, .int 99999999), (0, .ref (ad 100)), (1, .int a0)] d_M_leastWorst_4 rfl (by decide) rfl ?_
  refine g_sub [2, 3, 1, 0] (L' := [(0, .ref (ad 100)), (1, .int a0), (2, .int 99999999), (3, .int 0)]) rfl ?_
  obtain ⟨t5, z5, hE⟩ := bd_some hE
  refine loopG (fun z_ : Int32 × Int32 × Hp => K_M_leastWorst_L5 N a0 z_.1 z_.2.1 z_.2.2) (fun z_ : Int32 × Int32 × Hp => G p l e rm_M_leastWorst s m args below meth c K A WM 5 0 0 _ 5 [(0, .ref (ad 100)), (1, .int a0), (2, .int z_.1), (3, .int z_.2.1)] [] ad z_.2.2) (fun z_ : Int32 × Hp => G p l e rm_M_leastWorst s m args below meth c K A WM 5 0 0 _ 43 [(2, .int z_.1)] [] ad z_.2) (fun z_ x_ hz k1 k2 => w_M_leastWorst_L5 C0 hr N a0 z_.1 z_.2.1 z_.2.2 hz k1 k2) _ _ _ z5 ?_
  try dsimp only
  refine g_iload_n C0 0 d_M_leastWorst_43 rfl rfl ?_
  obtain rfl := Option.some.inj hE
  exact g_iret C0 hr d_M_leastWorst_44
theorem m_M_leastWorst (l : Launch) (K : KT) (ad : Nat → Nat) (h : Hp) (N : Nat) (a0 : Int32) {res : Int32 × Hp} (hE : K_M_leastWorst N a0 h = some res) : ConI l y_M_leastWorst prog_13_method_71_code 5 (Option.some Jvm.ClassFile.FieldType.int) rm_M_leastWorst K WM ad h [.ref (ad 100), .int a0] res.1 res.2 := fun sz =>
  con_start [(0, .ref (ad 100)), (1, .int a0)] (by decide +kernel) rfl (Nat.le_of_ble_eq_true rfl) (fun p e s m args below meth c C0 hr hnm hsz => w_M_leastWorst C0 hr N a0 h hE)
abbrev y_M_findSure : MethodName := ⟨"CanoeSidesModel", "findSure", "()V"⟩
abbrev rm_M_findSure : Room := { frames := 7, cells := 0, slots := 0, locals := 171 }
theorem cd_M_findSure : cwd y_M_findSure 0 := by decide +kernel
theorem d_M_findSure_0 : decode prog_13_method_72_code 0 = .ok (.aload_n 0, 1) := by decide +kernel
theorem d_M_findSure_1 : decode prog_13_method_72_code 1 = .ok (.iconst 0, 1) := by decide +kernel
theorem d_M_findSure_2 : decode prog_13_method_72_code 2 = .ok (.putfield 166, 3) := by decide +kernel
theorem d_M_findSure_5 : decode prog_13_method_72_code 5 = .ok (.bipush 8, 2) := by decide +kernel
theorem d_M_findSure_7 : decode prog_13_method_72_code 7 = .ok (.aload_n 0, 1) := by decide +kernel
theorem d_M_findSure_8 : decode prog_13_method_72_code 8 = .ok (.iconst 0, 1) := by decide +kernel
theorem d_M_findSure_9 : decode prog_13_method_72_code 9 = .ok (.invokevirtual 131, 3) := by decide +kernel
theorem d_M_findSure_12 : decode prog_13_method_72_code 12 = .ok (.imul, 1) := by decide +kernel
theorem d_M_findSure_13 : decode prog_13_method_72_code 13 = .ok (.istore_n 1, 1) := by decide +kernel
theorem d_M_findSure_14 : decode prog_13_method_72_code 14 = .ok (.iconst 0, 1) := by decide +kernel
theorem d_M_findSure_15 : decode prog_13_method_72_code 15 = .ok (.istore_n 2, 1) := by decide +kernel
theorem d_M_findSure_16 : decode prog_13_method_72_code 16 = .ok (.iload_n 2, 1) := by decide +kernel
theorem d_M_findSure_17 : decode prog_13_method_72_code 17 = .ok (.iload_n 1, 1) := by decide +kernel
theorem d_M_findSure_18 : decode prog_13_method_72_code 18 = .ok (.if_icmp .ge 36, 3) := by decide +kernel
theorem d_M_findSure_21 : decode prog_13_method_72_code 21 = .ok (.aload_n 0, 1) := by decide +kernel
theorem d_M_findSure_22 : decode prog_13_method_72_code 22 = .ok (.getfield 46, 3) := by decide +kernel
theorem d_M_findSure_25 : decode prog_13_method_72_code 25 = .ok (.iload_n 2, 1) := by decide +kernel
theorem d_M_findSure_26 : decode prog_13_method_72_code 26 = .ok (.aload_n 0, 1) := by decide +kernel
theorem d_M_findSure_27 : decode prog_13_method_72_code 27 = .ok (.iload_n 2, 1) := by decide +kernel
theorem d_M_findSure_28 : decode prog_13_method_72_code 28 = .ok (.bipush 8, 2) := by decide +kernel
theorem d_M_findSure_30 : decode prog_13_method_72_code 30 = .ok (.idiv, 1) := by decide +kernel
theorem d_M_findSure_31 : decode prog_13_method_72_code 31 = .ok (.iload_n 2, 1) := by decide +kernel
theorem d_M_findSure_32 : decode prog_13_method_72_code 32 = .ok (.bipush 8, 2) := by decide +kernel
theorem d_M_findSure_34 : decode prog_13_method_72_code 34 = .ok (.irem, 1) := by decide +kernel
theorem d_M_findSure_35 : decode prog_13_method_72_code 35 = .ok (.invokevirtual 150, 3) := by decide +kernel
theorem d_M_findSure_38 : decode prog_13_method_72_code 38 = .ok (.ifCond .eq 7, 3) := by decide +kernel
theorem d_M_findSure_41 : decode prog_13_method_72_code 41 = .ok (.iconst 0, 1) := by decide +kernel
theorem d_M_findSure_42 : decode prog_13_method_72_code 42 = .ok (.goto 5, 3) := by decide +kernel
theorem d_M_findSure_45 : decode prog_13_method_72_code 45 = .ok (.ldc 240, 2) := by decide +kernel
theorem d_M_findSure_47 : decode prog_13_method_72_code 47 = .ok (.iastore, 1) := by decide +kernel
theorem d_M_findSure_48 : decode prog_13_method_72_code 48 = .ok (.iinc 2 1, 3) := by decide +kernel
theorem d_M_findSure_51 : decode prog_13_method_72_code 51 = .ok (.goto (-35), 3) := by decide +kernel
theorem d_M_findSure_54 : decode prog_13_method_72_code 54 = .ok (.iconst 1, 1) := by decide +kernel
theorem d_M_findSure_55 : decode prog_13_method_72_code 55 = .ok (.istore_n 2, 1) := by decide +kernel
theorem d_M_findSure_56 : decode prog_13_method_72_code 56 = .ok (.iload_n 2, 1) := by decide +kernel
theorem d_M_findSure_57 : decode prog_13_method_72_code 57 = .ok (.bipush 30, 2) := by decide +kernel
theorem d_M_findSure_59 : decode prog_13_method_72_code 59 = .ok (.if_icmp .gt 85, 3) := by decide +kernel
theorem d_M_findSure_62 : decode prog_13_method_72_code 62 = .ok (.iconst 0, 1) := by decide +kernel
theorem d_M_findSure_63 : decode prog_13_method_72_code 63 = .ok (.istore_n 3, 1) := by decide +kernel
theorem d_M_findSure_64 : decode prog_13_method_72_code 64 = .ok (.iload_n 3, 1) := by decide +kernel
theorem d_M_findSure_65 : decode prog_13_method_72_code 65 = .ok (.iload_n 1, 1) := by decide +kernel
theorem d_M_findSure_66 : decode prog_13_method_72_code 66 = .ok (.if_icmp .ge 72, 3) := by decide +kernel
theorem d_M_findSure_69 : decode prog_13_method_72_code 69 = .ok (.aload_n 0, 1) := by decide +kernel
theorem d_M_findSure_70 : decode prog_13_method_72_code 70 = .ok (.getfield 46, 3) := by decide +kernel
theorem d_M_findSure_73 : decode prog_13_method_72_code 73 = .ok (.iload_n 3, 1) := by decide +kernel
theorem d_M_findSure_74 : decode prog_13_method_72_code 74 = .ok (.iaload, 1) := by decide +kernel
theorem d_M_findSure_75 : decode prog_13_method_72_code 75 = .ok (.ldc 240, 2) := by decide +kernel
theorem d_M_findSure_77 : decode prog_13_method_72_code 77 = .ok (.if_icmp .ne 20, 3) := by decide +kernel
theorem d_M_findSure_80 : decode prog_13_method_72_code 80 = .ok (.aload_n 0, 1) := by decide +kernel
theorem d_M_findSure_81 : decode prog_13_method_72_code 81 = .ok (.getfield 17, 3) := by decide +kernel
theorem d_M_findSure_84 : decode prog_13_method_72_code 84 = .ok (.iload_n 3, 1) := by decide +kernel
theorem d_M_findSure_85 : decode prog_13_method_72_code 85 = .ok (.bipush 8, 2) := by decide +kernel
theorem d_M_findSure_87 : decode prog_13_method_72_code 87 = .ok (.idiv, 1) := by decide +kernel
theorem d_M_findSure_88 : decode prog_13_method_72_code 88 = .ok (.iaload, 1) := by decide +kernel
theorem d_M_findSure_89 : decode prog_13_method_72_code 89 = .ok (.iconst 1, 1) := by decide +kernel
theorem d_M_findSure_90 : decode prog_13_method_72_code 90 = .ok (.if_icmp .eq 7, 3) := by decide +kernel
theorem d_M_findSure_93 : decode prog_13_method_72_code 93 = .ok (.iconst 1, 1) := by decide +kernel
theorem d_M_findSure_94 : decode prog_13_method_72_code 94 = .ok (.goto 4, 3) := by decide +kernel
theorem d_M_findSure_97 : decode prog_13_method_72_code 97 = .ok (.iconst 0, 1) := by decide +kernel
theorem d_M_findSure_98 : decode prog_13_method_72_code 98 = .ok (.istore 4, 2) := by decide +kernel
theorem d_M_findSure_100 : decode prog_13_method_72_code 100 = .ok (.aload_n 0, 1) := by decide +kernel
theorem d_M_findSure_101 : decode prog_13_method_72_code 101 = .ok (.getfield 46, 3) := by decide +kernel
theorem d_M_findSure_104 : decode prog_13_method_72_code 104 = .ok (.iload_n 3, 1) := by decide +kernel
theorem d_M_findSure_105 : decode prog_13_method_72_code 105 = .ok (.iload 4, 2) := by decide +kernel
theorem d_M_findSure_107 : decode prog_13_method_72_code 107 = .ok (.ifCond .eq 18, 3) := by decide +kernel
theorem d_M_findSure_110 : decode prog_13_method_72_code 110 = .ok (.aload_n 0, 1) := by decide +kernel
theorem d_M_findSure_111 : decode prog_13_method_72_code 111 = .ok (.iload_n 3, 1) := by decide +kernel
theorem d_M_findSure_112 : decode prog_13_method_72_code 112 = .ok (.invokevirtual 299, 3) := by decide +kernel
theorem d_M_findSure_115 : decode prog_13_method_72_code 115 = .ok (.iload_n 2, 1) := by decide +kernel
theorem d_M_findSure_116 : decode prog_13_method_72_code 116 = .ok (.iconst 1, 1) := by decide +kernel
theorem d_M_findSure_117 : decode prog_13_method_72_code 117 = .ok (.isub, 1) := by decide +kernel
theorem d_M_findSure_118 : decode prog_13_method_72_code 118 = .ok (.if_icmp .ne 7, 3) := by decide +kernel
theorem d_M_findSure_121 : decode prog_13_method_72_code 121 = .ok (.iload_n 2, 1) := by decide +kernel
theorem d_M_findSure_122 : decode prog_13_method_72_code 122 = .ok (.goto 9, 3) := by decide +kernel
theorem d_M_findSure_125 : decode prog_13_method_72_code 125 = .ok (.aload_n 0, 1) := by decide +kernel
theorem d_M_findSure_126 : decode prog_13_method_72_code 126 = .ok (.getfield 46, 3) := by decide +kernel
theorem d_M_findSure_129 : decode prog_13_method_72_code 129 = .ok (.iload_n 3, 1) := by decide +kernel
theorem d_M_findSure_130 : decode prog_13_method_72_code 130 = .ok (.iaload, 1) := by decide +kernel
theorem d_M_findSure_131 : decode prog_13_method_72_code 131 = .ok (.iastore, 1) := by decide +kernel
theorem d_M_findSure_132 : decode prog_13_method_72_code 132 = .ok (.iinc 3 1, 3) := by decide +kernel
theorem d_M_findSure_135 : decode prog_13_method_72_code 135 = .ok (.goto (-71), 3) := by decide +kernel
theorem d_M_findSure_138 : decode prog_13_method_72_code 138 = .ok (.iinc 2 1, 3) := by decide +kernel
theorem d_M_findSure_141 : decode prog_13_method_72_code 141 = .ok (.goto (-85), 3) := by decide +kernel
theorem d_M_findSure_144 : decode prog_13_method_72_code 144 = .ok (.return_, 1) := by decide +kernel
theorem w_M_findSure_J47 {p : Program} {l : Launch} {e : Env} {s : State} {m : MethodId} {args : Array Value} {below : List Frame} {meth : Method} {c : Code} {K : KT} {A : Nat → Prop} {Q : State → Prop} (C0 : Cx p s m args meth c prog_13_method_72_code "CanoeSidesModel" 5 K A) (hr : meth.sig.returnType = (Option.none : Option Jvm.ClassFile.FieldType)) {ad : Nat → Nat} (N : Nat) (x1 : Int32) (x2 : Int32) (y1 : Int32) (y2 : Int32) (h : Hp) {x_ : (Int32 × Hp) ⊕ (Hp)} (hE : K_M_findSure_J47 N x1 x2 y1 y2 h = some x_) (hk1 : ∀ z_, x_ = .inl z_ → G p l e rm_M_findSure s m args below meth c K A WM 5 0 0 Q 16 [(0, .ref (ad 100)), (1, .int x1), (2, .int z_.1)] [] ad z_.2) (hk3 : ∀ z_, x_ = .inr z_ → G p l e rm_M_findSure s m args below meth c K A WM 5 0 0 Q 54 [(0, .ref (ad 100)), (1, .int x1)] [] ad z_) : G p l e rm_M_findSure s m args below meth c K A WM 5 0 0 Q 47 [(0, .ref (ad 100)), (1, .int x1), (2, .int x2)] [.int y2, .int y1, .ref (ad 111)] ad h := by
  unfold K_M_findSure_J47 at hE
  obtain ⟨q47, hE⟩ := sA_some hE
  obtain ⟨h47, e47, hE⟩ := nm_some hE
  refine g_iast C0 11 rfl nd_M q47 d_M_findSure_47 ?_
  refine g_heap e47 ?_
  obtain ⟨v48, e48, hE⟩ := nm_some hE
  refine g_iinc C0 2 [(2, .int v48), (0, .ref (ad 100)), (1, .int x1)] d_M_findSure_48 rfl (by rw [e48]; rfl) (by decide) rfl ?_
  refine g_goto C0 (tgt := 16) d_M_findSure_51 (by decide) ?_
  refine g_sub [1, 2, 0] (L' := [(0, .ref (ad 100)), (1, .int x1), (2, .int v48)]) rfl ?_
  exact hk1 _ (Option.some.inj hE).symm
theorem w_M_findSure_L16 {p : Program} {l : Launch} {e : Env} {s : State} {m : MethodId} {args : Array Value} {below : List Frame} {meth : Method} {c : Code} {K : KT} {A : Nat → Prop} {Q : State → Prop} (C0 : Cx p s m args meth c prog_13_method_72_code "CanoeSidesModel" 5 K A) (hr : meth.sig.returnType = (Option.none : Option Jvm.ClassFile.FieldType)) {ad : Nat → Nat} (N : Nat) (x1 : Int32) (x2 : Int32) (h : Hp) {x_ : (Int32 × Hp) ⊕ (Hp)} (hE : K_M_findSure_L16 N x1 x2 h = some x_) (hk1 : ∀ z_, x_ = .inl z_ → G p l e rm_M_findSure s m args below meth c K A WM 5 0 0 Q 16 [(0, .ref (ad 100)), (1, .int x1), (2, .int z_.1)] [] ad z_.2) (hk3 : ∀ z_, x_ = .inr z_ → G p l e rm_M_findSure s m args below meth c K A WM 5 0 0 Q 54 [(0, .ref (ad 100)), (1, .int x1)] [] ad z_) : G p l e rm_M_findSure s m args below meth c K A WM 5 0 0 Q 16 [(0, .ref (ad 100)), (1, .int x1), (2, .int x2)] [] ad h := by
  unfold K_M_findSure_L16 at hE
  refine g_iload_n C0 2 d_M_findSure_16 rfl rfl ?_
  refine g_iload_n C0 1 d_M_findSure_17 rfl rfl ?_
  have hB := ite_some hE
  refine g_icmp_ge C0 (tgt := 54) d_M_findSure_18 (by decide) (fun c_ => ?_) (fun c_ => ?_)
  · replace hE := hB.1 c_
    refine g_sub [0, 1] (L' := [(0, .ref (ad 100)), (1, .int x1)]) rfl ?_
    exact hk3 _ (Option.some.inj hE).symm
  · replace hE := hB.2 c_
    refine g_aload_n C0 0 d_M_findSure_21 rfl rfl ?_
    refine g_getr C0 CK_11 24 (by decide) t_1114 0 rfl rfl d_M_findSure_22 ?_
    refine g_iload_n C0 2 d_M_findSure_25 rfl rfl ?_
    refine g_aload_n C0 0 d_M_findSure_26 rfl rfl ?_
    refine g_iload_n C0 2 d_M_findSure_27 rfl rfl ?_
    refine g_bipush C0 (v := 8) d_M_findSure_28 (by decide) ?_
    refine g_idiv C0 d_M_findSure_30 (by decide) ?_
    refine g_iload_n C0 2 d_M_findSure_31 rfl rfl ?_
    refine g_bipush C0 (v := 8) d_M_findSure_32 (by decide) ?_
    refine g_irem C0 d_M_findSure_34 (by decide) ?_
    obtain ⟨v35, z35, hE⟩ := bd_some hE
    refine g_calliP C0 nd_M [100, 101, 102, 103, 104, 105, 106, 107, 108, 109, 110, 111, 112, 113, 114, 115] rfl (sbW_self WM) (runV C0 (m_M_isGoal l K ad h (x2 / 8) (rm32 x2 8) z35) 2 rfl ⟨t_1268, t_1270, t_52, t_97, t_1271⟩ cd_M_isGoal (by decide) 0 rfl rfl (sbW_self WM) nd_M rfl rfl (Nat.le_of_ble_eq_true rfl) d_M_findSure_35) ?_
    have hB := ite_some hE
    refine g_if_eq C0 (tgt := 45) d_M_findSure_38 (by decide) (fun c_ => ?_) (fun c_ => ?_)
    · replace hE := hB.1 c_
      refine g_ldc C0 (v := 99999999) t_1393 d_M_findSure_45 ?_
      exact w_M_findSure_J47 C0 hr N x1 x2 x2 99999999 h hE hk1 hk3
    · replace hE := hB.2 c_
      refine g_iconst C0 (v := 0) d_M_findSure_41 (by decide) ?_
      refine g_goto C0 (tgt := 47) d_M_findSure_42 (by decide) ?_
      exact w_M_findSure_J47 C0 hr N x1 x2 x2 0 h hE hk1 hk3
theorem w_M_findSure_J131 {p : Program} {l : Launch} {e : Env} {s : State} {m : MethodId} {args : Array Value} {below : List Frame} {meth : Method} {c : Code} {K : KT} {A : Nat → Prop} {Q : State → Prop} (C0 : Cx p s m args meth c prog_13_method_72_code "CanoeSidesModel" 5 K A) (hr : meth.sig.returnType = (Option.none : Option Jvm.ClassFile.FieldType)) {ad : Nat → Nat} (N : Nat) (x1 : Int32) (x2 : Int32) (x3 : Int32) (y1 : Int32) (y2 : Int32) (h : Hp) {x_ : (Int32 × Hp) ⊕ (Hp)} (hE : K_M_findSure_J131 N x1 x2 x3 y1 y2 h = some x_) (hk1 : ∀ z_, x_ = .inl z_ → G p l e rm_M_findSure s m args below meth c K A WM 5 0 0 Q 64 [(0, .ref (ad 100)), (1, .int x1), (2, .int x2), (3, .int z_.1)] [] ad z_.2) (hk3 : ∀ z_, x_ = .inr z_ → G p l e rm_M_findSure s m args below meth c K A WM 5 0 0 Q 138 [(0, .ref (ad 100)), (1, .int x1), (2, .int x2)] [] ad z_) : G p l e rm_M_findSure s m args below meth c K A WM 5 0 0 Q 131 [(0, .ref (ad 100)), (1, .int x1), (2, .int x2), (3, .int x3)] [.int y2, .int y1, .ref (ad 111)] ad h := by
  unfold K_M_findSure_J131 at hE
  obtain ⟨q131, hE⟩ := sA_some hE
  obtain ⟨h131, e131, hE⟩ := nm_some hE
  refine g_iast C0 11 rfl nd_M q131 d_M_findSure_131 ?_
  refine g_heap e131 ?_
  obtain ⟨v132, e132, hE⟩ := nm_some hE
  refine g_iinc C0 3 [(3, .int v132), (0, .ref (ad 100)), (1, .int x1), (2, .int x2)] d_M_findSure_132 rfl (by rw [e132]; rfl) (by decide) rfl ?_
  refine g_goto C0 (tgt := 64) d_M_findSure_135 (by decide) ?_
  refine g_sub [1, 2, 3, 0] (L' := [(0, .ref (ad 100)), (1, .int x1), (2, .int x2), (3, .int v132)]) rfl ?_
  exact hk1 _ (Option.some.inj hE).symm
theorem w_M_findSure_J125 {p : Program} {l : Launch} {e : Env} {s : State} {m : MethodId} {args : Array Value} {below : List Frame} {meth : Method} {c : Code} {K : KT} {A : Nat → Prop} {Q : State → Prop} (C0 : Cx p s m args meth c prog_13_method_72_code "CanoeSidesModel" 5 K A) (hr : meth.sig.returnType = (Option.none : Option Jvm.ClassFile.FieldType)) {ad : Nat → Nat} (N : Nat) (x1 : Int32) (x2 : Int32) (x3 : Int32) (y1 : Int32) (h : Hp) {x_ : (Int32 × Hp) ⊕ (Hp)} (hE : K_M_findSure_J125 N x1 x2 x3 y1 h = some x_) (hk1 : ∀ z_, x_ = .inl z_ → G p l e rm_M_findSure s m args below meth c K A WM 5 0 0 Q 64 [(0, .ref (ad 100)), (1, .int x1), (2, .int x2), (3, .int z_.1)] [] ad z_.2) (hk3 : ∀ z_, x_ = .inr z_ → G p l e rm_M_findSure s m args below meth c K A WM 5 0 0 Q 138 [(0, .ref (ad 100)), (1, .int x1), (2, .int x2)] [] ad z_) : G p l e rm_M_findSure s m args below meth c K A WM 5 0 0 Q 125 [(0, .ref (ad 100)), (1, .int x1), (2, .int x2), (3, .int x3)] [.int y1, .ref (ad 111)] ad h := by
  unfold K_M_findSure_J125 at hE
  refine g_aload_n C0 0 d_M_findSure_125 rfl rfl ?_
  refine g_getr C0 CK_11 24 (by decide) t_1114 0 rfl rfl d_M_findSure_126 ?_
  refine g_iload_n C0 3 d_M_findSure_129 rfl rfl ?_
  obtain ⟨q130, v130, e130, hE⟩ := gA_some hE
  refine g_iald C0 11 rfl q130 d_M_findSure_130 ?_
  refine g_top e130 ?_
  exact w_M_findSure_J131 C0 hr N x1 x2 x3 y1 v130 h hE hk1 hk3
theorem w_M_findSure_J98 {p : Program} {l : Launch} {e : Env} {s : State} {m : MethodId} {args : Array Value} {below : List Frame} {meth : Method} {c : Code} {K : KT} {A : Nat → Prop} {Q : State → Prop} (C0 : Cx p s m args meth c prog_13_method_72_code "CanoeSidesModel" 5 K A) (hr : meth.sig.returnType = (Option.none : Option Jvm.ClassFile.FieldType)) {ad : Nat → Nat} (N : Nat) (x1 : Int32) (x2 : Int32) (x3 : Int32) (y0 : Int32) (h : Hp) {x_ : (Int32 × Hp) ⊕ (Hp)} (hE : K_M_findSure_J98 N x1 x2 x3 y0 h = some x_) (hk1 : ∀ z_, x_ = .inl z_ → G p l e rm_M_findSure s m args below meth c K A WM 5 0 0 Q 64 [(0, .ref (ad 100)), (1, .int x1), (2, .int x2), (3, .int z_.1)] [] ad z_.2) (hk3 : ∀ z_, x_ = .inr z_ → G p l e rm_M_findSure s m args below meth c K A WM 5 0 0 Q 138 [(0, .ref (ad 100)), (1, .int x1), (2, .int x2)] [] ad z_) : G p l e rm_M_findSure s m args below meth c K A WM 5 0 0 Q 98 [(0, .ref (ad 100)), (1, .int x1), (2, .int x2), (3, .int x3)] [.int y0] ad h := by
  unfold K_M_findSure_J98 at hE
  refine g_istore C0 [(4, .int y0), (0, .ref (ad 100)), (1, .int x1), (2, .int x2), (3, .int x3)] d_M_findSure_98 (by decide) rfl ?_
  refine g_aload_n C0 1 d_M_findSure_100 rfl rfl ?_
  refine g_getr C0 CK_11 24 (by decide) t_1114 0 rfl rfl d_M_findSure_101 ?_
  refine g_iload_n C0 4 d_M_findSure_104 rfl rfl ?_
  refine g_iload C0 0 d_M_findSure_105 rfl ?_
  have hB := ite_some hE
  refine g_if_eq C0 (tgt := 125) d_M_findSure_107 (by decide) (fun c_ => ?_) (fun c_ => ?_)
  · replace hE := hB.1 c_
    refine g_sub [1, 2, 3, 4] (L' := [(0, .ref (ad 100)), (1, .int x1), (2, .int x2), (3, .int x3)]) rfl ?_
    exact w_M_findSure_J125 C0 hr N x1 x2 x3 x3 h hE hk1 hk3
  · replace hE := hB.2 c_
    refine g_aload_n C0 1 d_M_findSure_110 rfl rfl ?_
    refine g_iload_n C0 4 d_M_findSure_111 rfl rfl ?_
    obtain ⟨v112, h112, z112, hE⟩ := bd2_some hE
    refine g_calli C0 nd_M [100, 101, 102, 103, 104, 105, 106, 107, 108, 109, 110, 111, 112, 113, 114, 115] rfl (sbW_self WM) (runV C0 (m_M_leastWorst l K ad h N x3 z112) 1 rfl ⟨t_1474, t_1476, t_78, t_97, t_1477⟩ cd_M_leastWorst (by decide) 0 rfl rfl (sbW_self WM) nd_M rfl rfl (Nat.le_of_ble_eq_true rfl) d_M_findSure_112) ?_
    refine g_mx [100, 101, 102, 103, 104, 105, 106, 107, 108, 109, 110, 111, 112, 113, 114, 115] rfl ?_
    refine g_iload_n C0 3 d_M_findSure_115 rfl rfl ?_
    refine g_iconst C0 (v := 1) d_M_findSure_116 (by decide) ?_
    refine g_isub C0 d_M_findSure_117 ?_
    have hB := ite_some hE
    refine g_icmp_ne C0 (tgt := 125) d_M_findSure_118 (by decide) (fun c_ => ?_) (fun c_ => ?_)
    · replace hE := hB.2 c_
      refine g_sub [1, 2, 3, 4] (L' := [(0, .ref (ad 100)), (1, .int x1), (2, .int x2), (3, .int x3)]) rfl ?_
      exact w_M_findSure_J125 C0 hr N x1 x2 x3 x3 h112 hE hk1 hk3
    · replace hE := hB.1 c_
      refine g_iload_n C0 3 d_M_findSure_121 rfl rfl ?_
      refine g_goto C0 (tgt := 131) d_M_findSure_122 (by decide) ?_
      refine g_sub [1, 2, 3, 4] (L' := [(0, .ref (ad 100)), (1, .int x1), (2, .int x2), (3, .int x3)]) rfl ?_
      exact w_M_findSure_J131 C0 hr N x1 x2 x3 x3 x2 h112 hE hk1 hk3
theorem w_M_findSure_J97 {p : Program} {l : Launch} {e : Env} {s : State} {m : MethodId} {args : Array Value} {below : List Frame} {meth : Method} {c : Code} {K : KT} {A : Nat → Prop} {Q : State → Prop} (C0 : Cx p s m args meth c prog_13_method_72_code "CanoeSidesModel" 5 K A) (hr : meth.sig.returnType = (Option.none : Option Jvm.ClassFile.FieldType)) {ad : Nat → Nat} (N : Nat) (x1 : Int32) (x2 : Int32) (x3 : Int32) (h : Hp) {x_ : (Int32 × Hp) ⊕ (Hp)} (hE : K_M_findSure_J97 N x1 x2 x3 h = some x_) (hk1 : ∀ z_, x_ = .inl z_ → G p l e rm_M_findSure s m args below meth c K A WM 5 0 0 Q 64 [(0, .ref (ad 100)), (1, .int x1), (2, .int x2), (3, .int z_.1)] [] ad z_.2) (hk3 : ∀ z_, x_ = .inr z_ → G p l e rm_M_findSure s m args below meth c K A WM 5 0 0 Q 138 [(0, .ref (ad 100)), (1, .int x1), (2, .int x2)] [] ad z_) : G p l e rm_M_findSure s m args below meth c K A WM 5 0 0 Q 97 [(0, .ref (ad 100)), (1, .int x1), (2, .int x2), (3, .int x3)] [] ad h := by
  unfold K_M_findSure_J97 at hE
  refine g_iconst C0 (v := 0) d_M_findSure_97 (by decide) ?_
  exact w_M_findSure_J98 C0 hr N x1 x2 x3 0 h hE hk1 hk3
theorem w_M_findSure_L64 {p : Program} {l : Launch} {e : Env} {s : State} {m : MethodId} {args : Array Value} {below : List Frame} {meth : Method} {c : Code} {K : KT} {A : Nat → Prop} {Q : State → Prop} (C0 : Cx p s m args meth c prog_13_method_72_code "CanoeSidesModel" 5 K A) (hr : meth.sig.returnType = (Option.none : Option Jvm.ClassFile.FieldType)) {ad : Nat → Nat} (N : Nat) (x1 : Int32) (x2 : Int32) (x3 : Int32) (h : Hp) {x_ : (Int32 × Hp) ⊕ (Hp)} (hE : K_M_findSure_L64 N x1 x2 x3 h = some x_) (hk1 : ∀ z_, x_ = .inl z_ → G p l e rm_M_findSure s m args below meth c K A WM 5 0 0 Q 64 [(0, .ref (ad 100)), (1, .int x1), (2, .int x2), (3, .int z_.1)] [] ad z_.2) (hk3 : ∀ z_, x_ = .inr z_ → G p l e rm_M_findSure s m args below meth c K A WM 5 0 0 Q 138 [(0, .ref (ad 100)), (1, .int x1), (2, .int x2)] [] ad z_) : G p l e rm_M_findSure s m args below meth c K A WM 5 0 0 Q 64 [(0, .ref (ad 100)), (1, .int x1), (2, .int x2), (3, .int x3)] [] ad h := by
  unfold K_M_findSure_L64 at hE
  refine g_iload_n C0 3 d_M_findSure_64 rfl rfl ?_
  refine g_iload_n C0 1 d_M_findSure_65 rfl rfl ?_
  have hB := ite_some hE
  refine g_icmp_ge C0 (tgt := 138) d_M_findSure_66 (by decide) (fun c_ => ?_) (fun c_ => ?_)
  · replace hE := hB.1 c_
    refine g_sub [0, 1, 2] (L' := [(0, .ref (ad 100)), (1, .int x1), (2, .int x2)]) rfl ?_
    exact hk3 _ (Option.some.inj hE).symm
  · replace hE := hB.2 c_
    refine g_aload_n C0 0 d_M_findSure_69 rfl rfl ?_
    refine g_getr C0 CK_11 24 (by decide) t_1114 0 rfl rfl d_M_findSure_70 ?_
    refine g_iload_n C0 3 d_M_findSure_73 rfl rfl ?_
    obtain ⟨q74, v74, e74, hE⟩ := gA_some hE
    refine g_iald C0 11 rfl q74 d_M_findSure_74 ?_
    refine g_top e74 ?_
    refine g_ldc C0 (v := 99999999) t_1393 d_M_findSure_75 ?_
    have hB := ite_some hE
    refine g_icmp_ne C0 (tgt := 97) d_M_findSure_77 (by decide) (fun c_ => ?_) (fun c_ => ?_)
    · replace hE := hB.2 c_
      exact w_M_findSure_J97 C0 hr N x1 x2 x3 h hE hk1 hk3
    · replace hE := hB.1 c_
      refine g_aload_n C0 0 d_M_findSure_80 rfl rfl ?_
      refine g_getr C0 CK_11 2 (by decide) t_1092 0 rfl rfl d_M_findSure_81 ?_
      refine g_iload_n C0 3 d_M_findSure_84 rfl rfl ?_
      refine g_bipush C0 (v := 8) d_M_findSure_85 (by decide) ?_
      refine g_idiv C0 d_M_findSure_87 (by decide) ?_
      obtain ⟨q88, v88, e88, hE⟩ := gA_some hE
      refine g_iald C0 3 rfl q88 d_M_findSure_88 ?_
      refine g_top e88 ?_
      refine g_iconst C0 (v := 1) d_M_findSure_89 (by decide) ?_
      have hB := ite_some hE
      refine g_icmp_eq C0 (tgt := 97) d_M_findSure_90 (by decide) (fun c_ => ?_) (fun c_ => ?_)
      · replace hE := hB.1 c_
        exact w_M_findSure_J97 C0 hr N x1 x2 x3 h hE hk1 hk3
      · replace hE := hB.2 c_
        refine g_iconst C0 (v := 1) d_M_findSure_93 (by decide) ?_
        refine g_goto C0 (tgt := 98) d_M_findSure_94 (by decide) ?_
        exact w_M_findSure_J98 C0 hr N x1 x2 x3 1 h hE hk1 hk3
theorem w_M_findSure_L56 {p : Program} {l : Launch} {e : Env} {s : State} {m : MethodId} {args : Array Value} {below : List Frame} {meth : Method} {c : Code} {K : KT} {A : Nat → Prop} {Q : State → Prop} (C0 : Cx p s m args meth c prog_13_method_72_code "CanoeSidesModel" 5 K A) (hr : meth.sig.returnType = (Option.none : Option Jvm.ClassFile.FieldType)) {ad : Nat → Nat} (N : Nat) (x1 : Int32) (x2 : Int32) (h : Hp) {x_ : (Int32 × Hp) ⊕ (Hp)} (hE : K_M_findSure_L56 N x1 x2 h = some x_) (hk1 : ∀ z_, x_ = .inl z_ → G p l e rm_M_findSure s m args below meth c K A WM 5 0 0 Q 56 [(0, .ref (ad 100)), (1, .int x1), (2, .int z_.1)] [] ad z_.2) (hk3 : ∀ z_, x_ = .inr z_ → G p l e rm_M_findSure s m args below meth c K A WM 5 0 0 Q 144 [] [] ad z_) : G p l e rm_M_findSure s m args below meth c K A WM 5 0 0 Q 56 [(0, .ref (ad 100)), (1, .int x1), (2, .int x2)] [] ad h := by
  unfold K_M_findSure_L56 at hE
  refine g_iload_n C0 2 d_M_findSure_56 rfl rfl ?_
  refine g_bipush C0 (v := 30) d_M_findSure_57 (by decide) ?_
  have hB := ite_some hE
  refine g_icmp_gt C0 (tgt := 144) d_M_findSure_59 (by decide) (fun c_ => ?_) (fun c_ => ?_)
  · replace hE := hB.1 c_
    refine g_sub [] (L' := []) rfl ?_
    exact hk3 _ (Option.some.inj hE).symm
  · replace hE := hB.2 c_
    refine g_iconst C0 (v := 0) d_M_findSure_62 (by decide) ?_
    refine g_istore_n C0 [(3, .int 0), (0, .ref (ad 100)), (1, .int x1), (2, .int x2)] d_M_findSure_63 rfl (by decide) rfl ?_
    refine g_sub [1, 2, 3, 0] (L' := [(0, .ref (ad 100)), (1, .int x1), (2, .int x2), (3, .int 0)]) rfl ?_
    obtain ⟨t64, z64, hE⟩ := bd_some hE
    refine loopG (fun z_ : Int32 × Hp => K_M_findSure_L64 N x1 x2 z_.1 z_.2) (fun z_ : Int32 × Hp => G p l e rm_M_findSure s m args below meth c K A WM 5 0 0 _ 64 [(0, .ref (ad 100)), (1, .int x1), (2, .int x2), (3, .int z_.1)] [] ad z_.2) (fun z_ : Hp => G p l e rm_M_findSure s m args below meth c K A WM 5 0 0 _ 138 [(0, .ref (ad 100)), (1, .int x1), (2, .int x2)] [] ad z_) (fun z_ x_ hz k1 k2 => w_M_findSure_L64 C0 hr N x1 x2 z_.1 z_.2 hz k1 k2) _ _ _ z64 ?_
    try dsimp only
    obtain ⟨v138, e138, hE⟩ := nm_some hE
    refine g_iinc C0 2 [(2, .int v138), (0, .ref (ad 100)), (1, .int x1)] d_M_findSure_138 rfl (by rw [e138]; rfl) (by decide) rfl ?_
    refine g_goto C0 (tgt := 56) d_M_findSure_141 (by decide) ?_
    refine g_sub [1, 2, 0] (L' := [(0, .ref (ad 100)), (1, .int x1), (2, .int v138)]) rfl ?_
    exact hk1 _ (Option.some.inj hE).symm
theorem w_M_findSure {p : Program} {l : Launch} {e : Env} {s : State} {m : MethodId} {args : Array Value} {below : List Frame} {meth : Method} {c : Code} {K : KT} {A : Nat → Prop} (C0 : Cx p s m args meth c prog_13_method_72_code "CanoeSidesModel" 5 K A) (hr : meth.sig.returnType = (Option.none : Option Jvm.ClassFile.FieldType)) {ad : Nat → Nat} (N : Nat) (h : Hp) {res : Hp} (hE : K_M_findSure N h = some res) : G p l e rm_M_findSure s m args below meth c K A WM 5 0 0 (QV s args below K A WM 0 0 ad res) 0 [(0, .ref (ad 100))] [] ad h := by
  unfold K_M_findSure at hE
  refine g_aload_n C0 0 d_M_findSure_0 rfl rfl ?_
  refine g_iconst C0 (v := 0) d_M_findSure_1 (by decide) ?_
  obtain ⟨h2, e2, hE⟩ := nm_some hE
  refine g_puti C0 CK_11 CT_11 12 (by decide) t_1102 rfl (by decide +kernel) nd_M 0 rfl rfl d_M_findSure_2 ?_
  refine g_heap e2 ?_
  refine g_bipush C0 (v := 8) d_M_findSure_5 (by decide) ?_
  refine g_aload_n C0 0 d_M_findSure_7 rfl rfl ?_
  refine g_iconst C0 (v := 0) d_M_findSure_8 (by decide) ?_
  obtain ⟨v9, z9, hE⟩ := bd_some hE
  refine g_calliP C0 nd_M [100, 101, 102, 103, 104, 105, 106, 107, 108, 109, 110, 111, 112, 113, 114, 115] rfl (sbW_self WM) (runV C0 (m_M_squares l K ad h2 0 z9) 1 rfl ⟨t_1248, t_1250, t_49, t_97, t_1251⟩ cd_M_squares (by decide) 0 rfl rfl (sbW_self WM) nd_M rfl rfl (Nat.le_of_ble_eq_true rfl) d_M_findSure_9) ?_
  refine g_imul C0 d_M_findSure_12 ?_
  obtain ⟨v13, e13, hE⟩ := nm_some hE
  refine g_top e13 ?_
  refine g_istore_n C0 [(1, .int v13), (0, .ref (ad 100))] d_M_findSure_13 rfl (by decide) rfl ?_
  refine g_iconst C0 (v := 0) d_M_findSure_14 (by decide) ?_
  refine g_istore_n C0 [(2, .int 0), (1, .int v13), (0, .ref (ad 100))] d_M_findSure_15 rfl (by decide) rfl ?_
  refine g_sub [2, 1, 0] (L' := [(0, .ref (ad 100)), (1, .int v13), (2, .int 0)]) rfl ?_
  obtain ⟨t16, z16, hE⟩ := bd_some hE
  refine loopG (fun z_ : Int32 × Hp => K_M_findSure_L16 N v13 z_.1 z_.2) (fun z_ : Int32 × Hp => G p l e rm_M_findSure s m args below meth c K A WM 5 0 0 _ 16 [(0, .ref (ad 100)), (1, .int v13), (2, .int z_.1)] [] ad z_.2) (fun z_ : Hp => G p l e rm_M_findSure s m args below meth c K A WM 5 0 0 _ 54 [(0, .ref (ad 100)), (1, .int v13)] [] ad z_) (fun z_ x_ hz k1 k2 => w_M_findSure_L16 C0 hr N v13 z_.1 z_.2 hz k1 k2) _ _ _ z16 ?_
  try dsimp only
  refine g_iconst C0 (v := 1) d_M_findSure_54 (by decide) ?_
  refine g_istore_n C0 [(2, .int 1), (0, .ref (ad 100)), (1, .int v13)] d_M_findSure_55 rfl (by decide) rfl ?_
  refine g_sub [1, 2, 0] (L' := [(0, .ref (ad 100)), (1, .int v13), (2, .int 1)]) rfl ?_
  obtain ⟨t56, z56, hE⟩ := bd_some hE
  refine loopG (fun z_ : Int32 × Hp => K_M_findSure_L56 N v13 z_.1 z_.2) (fun z_ : Int32 × Hp => G p l e rm_M_findSure s m args below meth c K A WM 5 0 0 _ 56 [(0, .ref (ad 100)), (1, .int v13), (2, .int z_.1)] [] ad z_.2) (fun z_ : Hp => G p l e rm_M_findSure s m args below meth c K A WM 5 0 0 _ 144 [] [] ad z_) (fun z_ x_ hz k1 k2 => w_M_findSure_L56 C0 hr N v13 z_.1 z_.2 hz k1 k2) _ _ _ z56 ?_
  try dsimp only
  obtain rfl := Option.some.inj hE
  exact g_vret C0 hr d_M_findSure_144
theorem m_M_findSure (l : Launch) (K : KT) (ad : Nat → Nat) (h : Hp) (N : Nat) {res : Hp} (hE : K_M_findSure N h = some res) : ConV l y_M_findSure prog_13_method_72_code 5 (Option.none : Option Jvm.ClassFile.FieldType) rm_M_findSure K WM ad h [.ref (ad 100)] res := fun sz =>
  con_start [(0, .ref (ad 100))] (by decide +kernel) rfl (Nat.le_of_ble_eq_true rfl) (fun p e s m args below meth c C0 hr hnm hsz => w_M_findSure C0 hr N h hE)
abbrev y_M_surely : MethodName := ⟨"CanoeSidesModel", "surely", "(I)I"⟩
abbrev rm_M_surely : Room := { frames := 8, cells := 0, slots := 0, locals := 195 }
theorem cd_M_surely : cwd y_M_surely 1 := by decide +kernel
theorem d_M_surely_0 : decode prog_13_method_73_code 0 = .ok (.iload_n 1, 1) := by decide +kernel
theorem d_M_surely_1 : decode prog_13_method_73_code 1 = .ok (.i2l, 1) := by decide +kernel
theorem d_M_surely_2 : decode prog_13_method_73_code 2 = .ok (.lconst 0, 1) := by decide +kernel
theorem d_M_surely_3 : decode prog_13_method_73_code 3 = .ok (.lconst 1, 1) := by decide +kernel
theorem d_M_surely_4 : decode prog_13_method_73_code 4 = .ok (.invokestatic 67, 3) := by decide +kernel
theorem d_M_surely_7 : decode prog_13_method_73_code 7 = .ok (.ifCond .ne 6, 3) := by decide +kernel
theorem d_M_surely_10 : decode prog_13_method_73_code 10 = .ok (.ldc 71, 2) := by decide +kernel
theorem d_M_surely_12 : decode prog_13_method_73_code 12 = .ok (.ireturn, 1) := by decide +kernel
theorem d_M_surely_13 : decode prog_13_method_73_code 13 = .ok (.aload_n 0, 1) := by decide +kernel
theorem d_M_surely_14 : decode prog_13_method_73_code 14 = .ok (.invokevirtual 143, 3) := by decide +kernel
theorem d_M_surely_17 : decode prog_13_method_73_code 17 = .ok (.ifCond .eq 6, 3) := by decide +kernel
theorem d_M_surely_20 : decode prog_13_method_73_code 20 = .ok (.ldc 215, 2) := by decide +kernel
theorem d_M_surely_22 : decode prog_13_method_73_code 22 = .ok (.ireturn, 1) := by decide +kernel
theorem d_M_surely_23 : decode prog_13_method_73_code 23 = .ok (.aload_n 0, 1) := by decide +kernel
theorem d_M_surely_24 : decode prog_13_method_73_code 24 = .ok (.getfield 20, 3) := by decide +kernel
theorem d_M_surely_27 : decode prog_13_method_73_code 27 = .ok (.bipush 10, 2) := by decide +kernel
theorem d_M_surely_29 : decode prog_13_method_73_code 29 = .ok (.iaload, 1) := by decide +kernel
theorem d_M_surely_30 : decode prog_13_method_73_code 30 = .ok (.ifCond .ge 5, 3) := by decide +kernel
theorem d_M_surely_33 : decode prog_13_method_73_code 33 = .ok (.iconst (-1), 1) := by decide +kernel
theorem d_M_surely_34 : decode prog_13_method_73_code 34 = .ok (.ireturn, 1) := by decide +kernel
theorem d_M_surely_35 : decode prog_13_method_73_code 35 = .ok (.aload_n 0, 1) := by decide +kernel
theorem d_M_surely_36 : decode prog_13_method_73_code 36 = .ok (.invokevirtual 302, 3) := by decide +kernel
theorem d_M_surely_39 : decode prog_13_method_73_code 39 = .ok (.bipush 8, 2) := by decide +kernel
theorem d_M_surely_41 : decode prog_13_method_73_code 41 = .ok (.aload_n 0, 1) := by decide +kernel
theorem d_M_surely_42 : decode prog_13_method_73_code 42 = .ok (.getfield 7, 3) := by decide +kernel
theorem d_M_surely_45 : decode prog_13_method_73_code 45 = .ok (.iconst 0, 1) := by decide +kernel
theorem d_M_surely_46 : decode prog_13_method_73_code 46 = .ok (.iaload, 1) := by decide +kernel
theorem d_M_surely_47 : decode prog_13_method_73_code 47 = .ok (.imul, 1) := by decide +kernel
theorem d_M_surely_48 : decode prog_13_method_73_code 48 = .ok (.aload_n 0, 1) := by decide +kernel
theorem d_M_surely_49 : decode prog_13_method_73_code 49 = .ok (.getfield 7, 3) := by decide +kernel
theorem d_M_surely_52 : decode prog_13_method_73_code 52 = .ok (.iconst 1, 1) := by decide +kernel
theorem d_M_surely_53 : decode prog_13_method_73_code 53 = .ok (.iaload, 1) := by decide +kernel
theorem d_M_surely_54 : decode prog_13_method_73_code 54 = .ok (.iadd, 1) := by decide +kernel
theorem d_M_surely_55 : decode prog_13_method_73_code 55 = .ok (.istore_n 2, 1) := by decide +kernel
theorem d_M_surely_56 : decode prog_13_method_73_code 56 = .ok (.aload_n 0, 1) := by decide +kernel
theorem d_M_surely_57 : decode prog_13_method_73_code 57 = .ok (.getfield 46, 3) := by decide +kernel
theorem d_M_surely_60 : decode prog_13_method_73_code 60 = .ok (.iload_n 2, 1) := by decide +kernel
theorem d_M_surely_61 : decode prog_13_method_73_code 61 = .ok (.iaload, 1) := by decide +kernel
theorem d_M_surely_62 : decode prog_13_method_73_code 62 = .ok (.istore_n 3, 1) := by decide +kernel
theorem d_M_surely_63 : decode prog_13_method_73_code 63 = .ok (.iload_n 1, 1) := by decide +kernel
theorem d_M_surely_64 : decode prog_13_method_73_code 64 = .ok (.ifCond .eq 13, 3) := by decide +kernel
theorem d_M_surely_67 : decode prog_13_method_73_code 67 = .ok (.iload_n 3, 1) := by decide +kernel
theorem d_M_surely_68 : decode prog_13_method_73_code 68 = .ok (.ldc 240, 2) := by decide +kernel
theorem d_M_surely_70 : decode prog_13_method_73_code 70 = .ok (.if_icmp .eq 7, 3) := by decide +kernel
theorem d_M_surely_73 : decode prog_13_method_73_code 73 = .ok (.iload_n 3, 1) := by decide +kernel
theorem d_M_surely_74 : decode prog_13_method_73_code 74 = .ok (.ifCond .ne 20, 3) := by decide +kernel
theorem d_M_surely_77 : decode prog_13_method_73_code 77 = .ok (.iload_n 3, 1) := by decide +kernel
theorem d_M_surely_78 : decode prog_13_method_73_code 78 = .ok (.ldc 240, 2) := by decide +kernel
theorem d_M_surely_80 : decode prog_13_method_73_code 80 = .ok (.if_icmp .eq 8, 3) := by decide +kernel
theorem d_M_surely_83 : decode prog_13_method_73_code 83 = .ok (.iload_n 1, 1) := by decide +kernel
theorem d_M_surely_84 : decode prog_13_method_73_code 84 = .ok (.iconst 1, 1) := by decide +kernel
theorem d_M_surely_85 : decode prog_13_method_73_code 85 = .ok (.if_icmp .ne 7, 3) := by decide +kernel
theorem d_M_surely_88 : decode prog_13_method_73_code 88 = .ok (.iconst (-1), 1) := by decide +kernel
theorem d_M_surely_89 : decode prog_13_method_73_code 89 = .ok (.goto 4, 3) := by decide +kernel
theorem d_M_surely_92 : decode prog_13_method_73_code 92 = .ok (.iload_n 3, 1) := by decide +kernel
theorem d_M_surely_93 : decode prog_13_method_73_code 93 = .ok (.ireturn, 1) := by decide +kernel
theorem d_M_surely_94 : decode prog_13_method_73_code 94 = .ok (.iconst 0, 1) := by decide +kernel
theorem d_M_surely_95 : decode prog_13_method_73_code 95 = .ok (.istore 4, 2) := by decide +kernel
theorem d_M_surely_97 : decode prog_13_method_73_code 97 = .ok (.aload_n 0, 1) := by decide +kernel
theorem d_M_surely_98 : decode prog_13_method_73_code 98 = .ok (.iload_n 2, 1) := by decide +kernel
theorem d_M_surely_99 : decode prog_13_method_73_code 99 = .ok (.iload 4, 2) := by decide +kernel
theorem d_M_surely_101 : decode prog_13_method_73_code 101 = .ok (.iconst 4, 1) := by decide +kernel
theorem d_M_surely_102 : decode prog_13_method_73_code 102 = .ok (.idiv, 1) := by decide +kernel
theorem d_M_surely_103 : decode prog_13_method_73_code 103 = .ok (.iload 4, 2) := by decide +kernel
theorem d_M_surely_105 : decode prog_13_method_73_code 105 = .ok (.iconst 4, 1) := by decide +kernel
theorem d_M_surely_106 : decode prog_13_method_73_code 106 = .ok (.irem, 1) := by decide +kernel
theorem d_M_surely_107 : decode prog_13_method_73_code 107 = .ok (.invokevirtual 296, 3) := by decide +kernel
theorem d_M_surely_110 : decode prog_13_method_73_code 110 = .ok (.iload_n 3, 1) := by decide +kernel
theorem d_M_surely_111 : decode prog_13_method_73_code 111 = .ok (.iconst 1, 1) := by decide +kernel
theorem d_M_surely_112 : decode prog_13_method_73_code 112 = .ok (.isub, 1) := by decide +kernel
theorem d_M_surely_113 : decode prog_13_method_73_code 113 = .ok (.if_icmp .eq 9, 3) := by decide +kernel
theorem d_M_surely_116 : decode prog_13_method_73_code 116 = .ok (.iinc 4 1, 3) := by decide +kernel
theorem d_M_surely_119 : decode prog_13_method_73_code 119 = .ok (.goto (-22), 3) := by decide +kernel
theorem d_M_surely_122 : decode prog_13_method_73_code 122 = .ok (.iload 4, 2) := by decide +kernel
theorem d_M_surely_124 : decode prog_13_method_73_code 124 = .ok (.ireturn, 1) := by decide +kernel
theorem w_M_surely_J88 {p : Program} {l : Launch} {e : Env} {s : State} {m : MethodId} {args : Array Value} {below : List Frame} {meth : Method} {c : Code} {K : KT} {A : Nat → Prop} (C0 : Cx p s m args meth c prog_13_method_73_code "CanoeSidesModel" 5 K A) (hr : meth.sig.returnType = (Option.some Jvm.ClassFile.FieldType.int)) {ad : Nat → Nat} (N : Nat) (h : Hp) {res : Int32 × Hp} (hE : K_M_surely_J88 N h = some res) : G p l e rm_M_surely s m args below meth c K A WM 5 0 0 (QI s args below K A WM 0 0 ad res.1 res.2) 88 [] [] ad h := by
  unfold K_M_surely_J88 at hE
  refine g_iconst C0 (v := (-1)) d_M_surely_88 (by decide) ?_
  refine g_goto C0 (tgt := 93) d_M_surely_89 (by decide) ?_
  obtain rfl := Option.some.inj hE
  exact g_iret C0 hr d_M_surely_93
theorem w_M_surely_J77 {p : Program} {l : Launch} {e : Env} {s : State} {m : MethodId} {args : Array Value} {below : List Frame} {meth : Method} {c : Code} {K : KT} {A : Nat → Prop} (C0 : Cx p s m args meth c prog_13_method_73_code "CanoeSidesModel" 5 K A) (hr : meth.sig.returnType = (Option.some Jvm.ClassFile.FieldType.int)) {ad : Nat → Nat} (N : Nat) (x1 : Int32) (x3 : Int32) (h : Hp) {res : Int32 × Hp} (hE : K_M_surely_J77 N x1 x3 h = some res) : G p l e rm_M_surely s m args below meth c K A WM 5 0 0 (QI s args below K A WM 0 0 ad res.1 res.2) 77 [(1, .int x1), (3, .int x3)] [] ad h := by
  unfold K_M_surely_J77 at hE
  refine g_iload_n C0 1 d_M_surely_77 rfl rfl ?_
  refine g_ldc C0 (v := 99999999) t_1393 d_M_surely_78 ?_
  have hB := ite_some hE
  refine g_icmp_eq C0 (tgt := 88) d_M_surely_80 (by decide) (fun c_ => ?_) (fun c_ => ?_)
  · replace hE := hB.1 c_
    refine g_sub [] (L' := []) rfl ?_
    exact w_M_surely_J88 C0 hr N h hE
  · replace hE := hB.2 c_
    refine g_iload_n C0 0 d_M_surely_83 rfl rfl ?_
    refine g_iconst C0 (v := 1) d_M_surely_84 (by decide) ?_
    have hB := ite_some hE
    refine g_icmp_ne C0 (tgt := 92) d_M_surely_85 (by decide) (fun c_ => ?_) (fun c_ => ?_)
    · replace hE := hB.2 c_
      refine g_iload_n C0 1 d_M_surely_92 rfl rfl ?_
      obtain rfl := Option.some.inj hE
      exact g_iret C0 hr d_M_surely_93
    · replace hE := hB.1 c_
      refine g_sub [] (L' := []) rfl ?_
      exact w_M_surely_J88 C0 hr N h hE
theorem w_M_surely_L97 {p : Program} {l : Launch} {e : Env} {s : State} {m : MethodId} {args : Array Value} {below : List Frame} {meth : Method} {c : Code} {K : KT} {A : Nat → Prop} {Q : State → Prop} (C0 : Cx p s m args meth c prog_13_method_73_code "CanoeSidesModel" 5 K A) (hr : meth.sig.returnType = (Option.some Jvm.ClassFile.FieldType.int)) {ad : Nat → Nat} (N : Nat) (x2 : Int32) (x3 : Int32) (x4 : Int32) (h : Hp) {x_ : (Int32 × Hp) ⊕ (Int32 × Hp)} (hE : K_M_surely_L97 N x2 x3 x4 h = some x_) (hk1 : ∀ z_, x_ = .inl z_ → G p l e rm_M_surely s m args below meth c K A WM 5 0 0 Q 97 [(0, .ref (ad 100)), (2, .int x2), (3, .int x3), (4, .int z_.1)] [] ad z_.2) (hk3 : ∀ z_, x_ = .inr z_ → G p l e rm_M_surely s m args below meth c K A WM 5 0 0 Q 122 [(4, .int z_.1)] [] ad z_.2) : G p l e rm_M_surely s m args below meth c K A WM 5 0 0 Q 97 [(0, .ref (ad 100)), (2, .int x2), (3, .int x3), (4, .int x4)] [] ad h := by
  unfold K_M_surely_L97 at hE
  refine g_aload_n C0 0 d_M_surely_97 rfl rfl ?_
  refine g_iload_n C0 1 d_M_surely_98 rfl rfl ?_
  refine g_iload C0 3 d_M_surely_99 rfl ?_
  refine g_iconst C0 (v := 4) d_M_surely_101 (by decide) ?_
  refine g_idiv C0 d_M_surely_102 (by decide) ?_
  refine g_iload C0 3 d_M_surely_103 rfl ?_
  refine g_iconst C0 (v := 4) d_M_surely_105 (by decide) ?_
  refine g_irem C0 d_M_surely_106 (by decide) ?_
  obtain ⟨v107, h107, z107, hE⟩ := bd2_some hE
  refine g_calli C0 nd_M [100, 101, 102, 103, 104, 105, 106, 107, 108, 109, 110, 111, 112, 113, 114, 115] rfl (sbW_self WM) (runV C0 (m_M_worst l K ad h N x2 (x4 / 4) (rm32 x4 4) z107) 3 rfl ⟨t_1478, t_1480, t_79, t_97, t_1481⟩ cd_M_worst (by decide) 0 rfl rfl (sbW_self WM) nd_M rfl rfl (Nat.le_of_ble_eq_true rfl) d_M_surely_107) ?_
  refine g_mx [100, 101, 102, 103, 104, 105, 106, 107, 108, 109, 110, 111, 112, 113, 114, 115] rfl ?_
  refine g_iload_n C0 2 d_M_surely_110 rfl rfl ?_
  refine g_iconst C0 (v := 1) d_M_surely_111 (by decide) ?_
  refine g_isub C0 d_M_surely_112 ?_
  have hB := ite_some hE
  refine g_icmp_eq C0 (tgt := 122) d_M_surely_113 (by decide) (fun c_ => ?_) (fun c_ => ?_)
  · replace hE := hB.1 c_
    refine g_sub [3] (L' := [(4, .int x4)]) rfl ?_
    exact hk3 _ (Option.some.inj hE).symm
  · replace hE := hB.2 c_
    obtain ⟨v116, e116, hE⟩ := nm_some hE
    refine g_iinc C0 3 [(4, .int v116), (0, .ref (ad 100)), (2, .int x2), (3, .int x3)] d_M_surely_116 rfl (by rw [e116]; rfl) (by decide) rfl ?_
    refine g_goto C0 (tgt := 97) d_M_surely_119 (by decide) ?_
    refine g_sub [1, 2, 3, 0] (L' := [(0, .ref (ad 100)), (2, .int x2), (3, .int x3), (4, .int v116)]) rfl ?_
    exact hk1 _ (Option.some.inj hE).symm
theorem w_M_surely {p : Program} {l : Launch} {e : Env} {s : State} {m : MethodId} {args : Array Value} {below : List Frame} {meth : Method} {c : Code} {K : KT} {A : Nat → Prop} (C0 : Cx p s m args meth c prog_13_method_73_code "CanoeSidesModel" 5 K A) (hr : meth.sig.returnType = (Option.some Jvm.ClassFile.FieldType.int)) {ad : Nat → Nat} (N : Nat) (a0 : Int32) (h : Hp) {res : Int32 × Hp} (hE : K_M_surely N a0 h = some res) : G p l e rm_M_surely s m args below meth c K A WM 5 0 0 (QI s args below K A WM 0 0 ad res.1 res.2) 0 [(0, .ref (ad 100)), (1, .int a0)] [] ad h := by
  unfold K_M_surely at hE
  refine g_iload_n C0 1 d_M_surely_0 rfl rfl ?_
  refine g_i2l C0 d_M_surely_1 ?_
  refine g_lconst C0 (v := 0) d_M_surely_2 (by decide) ?_
  refine g_lconst C0 (v := 1) d_M_surely_3 (by decide) ?_
  obtain ⟨v4, z4, hE⟩ := bd_some hE
  refine g_calliP C0 nd_M [] rfl (sb_E_M) (runS C0 (m_M_in l K ad h (Int32.toInt64 a0) 0 1 z4) 3 ⟨t_1196, t_1197, t_97, t_1198⟩ cd_M_in (by decide) (sb_E_M) nd_E rfl rfl (Nat.le_of_ble_eq_true rfl) d_M_surely_4) ?_
  have hB := ite_some hE
  refine g_if_ne C0 (tgt := 13) d_M_surely_7 (by decide) (fun c_ => ?_) (fun c_ => ?_)
  · replace hE := hB.2 c_
    refine g_aload_n C0 0 d_M_surely_13 rfl rfl ?_
    obtain ⟨v14, z14, hE⟩ := bd_some hE
    refine g_calliP C0 nd_M [100, 101, 102, 103, 104, 105, 106, 107, 108, 109, 110, 111, 112, 113, 114, 115] rfl (sbW_self WM) (runV C0 (m_M_isNone l K ad h z14) 0 rfl ⟨t_1264, t_1266, t_51, t_97, t_1267⟩ cd_M_isNone (by decide) 0 rfl rfl (sbW_self WM) nd_M rfl rfl (Nat.le_of_ble_eq_true rfl) d_M_surely_14) ?_
    have hB := ite_some hE
    refine g_if_eq C0 (tgt := 23) d_M_surely_17 (by decide) (fun c_ => ?_) (fun c_ => ?_)
    · replace hE := hB.1 c_
      refine g_aload_n C0 0 d_M_surely_23 rfl rfl ?_
      refine g_getr C0 CK_11 3 (by decide) t_1093 0 rfl rfl d_M_surely_24 ?_
      refine g_bipush C0 (v := 10) d_M_surely_27 (by decide) ?_
      obtain ⟨q29, v29, e29, hE⟩ := gA_some hE
      refine g_iald C0 4 rfl q29 d_M_surely_29 ?_
      refine g_top e29 ?_
      have hB := ite_some hE
      refine g_if_ge C0 (tgt := 35) d_M_surely_30 (by decide) (fun c_ => ?_) (fun c_ => ?_)
      · replace hE := hB.1 c_
        refine g_aload_n C0 0 d_M_surely_35 rfl rfl ?_
        obtain ⟨h36, z36, hE⟩ := bd_some hE
        refine g_callv C0 nd_M [100, 101, 102, 103, 104, 105, 106, 107, 108, 109, 110, 111, 112, 113, 114, 115] rfl (sbW_self WM) (runV C0 (m_M_findSure l K ad h N z36) 0 rfl ⟨t_1470, t_1472, t_77, t_97, t_1473⟩ cd_M_findSure (by decide) 0 rfl rfl (sbW_self WM) nd_M rfl rfl (Nat.le_of_ble_eq_true rfl) d_M_surely_36) ?_
        refine g_mx [100, 101, 102, 103, 104, 105, 106, 107, 108, 109, 110, 111, 112, 113, 114, 115] rfl ?_
        refine g_bipush C0 (v := 8) d_M_surely_39 (by decide) ?_
        refine g_aload_n C0 0 d_M_surely_41 rfl rfl ?_
        refine g_getr C0 CK_11 0 (by decide) t_1090 0 rfl rfl d_M_surely_42 ?_
        refine g_iconst C0 (v := 0) d_M_surely_45 (by decide) ?_
        obtain ⟨q46, v46, e46, hE⟩ := gA_some hE
        refine g_iald C0 1 rfl q46 d_M_surely_46 ?_
        refine g_top e46 ?_
        refine g_imul C0 d_M_surely_47 ?_
        refine g_aload_n C0 0 d_M_surely_48 rfl rfl ?_
        refine g_getr C0 CK_11 0 (by decide) t_1090 0 rfl rfl d_M_surely_49 ?_
        refine g_iconst C0 (v := 1) d_M_surely_52 (by decide) ?_
        obtain ⟨q53, v53, e53, hE⟩ := gA_some hE
        refine g_iald C0 1 rfl q53 d_M_surely_53 ?_
        refine g_top e53 ?_
        refine g_iadd C0 d_M_surely_54 ?_
        obtain ⟨v55, e55, hE⟩ := nm_some hE
        refine g_top e55 ?_
        refine g_istore_n C0 [(2, .int v55), (0, .ref (ad 100)), (1, .int a0)] d_M_surely_55 rfl (by decide) rfl ?_
        refine g_aload_n C0 1 d_M_surely_56 rfl rfl ?_
        refine g_getr C0 CK_11 24 (by decide) t_1114 0 rfl rfl d_M_surely_57 ?_
        refine g_iload_n C0 0 d_M_surely_60 rfl rfl ?_
        obtain ⟨q61, v61, e61, hE⟩ := gA_some hE
        refine g_iald C0 11 rfl q61 d_M_surely_61 ?_
        refine g_top e61 ?_
        refine g_istore_n C0 [(3, .int v61), (2, .int v55), (0, .ref (ad 100)), (1, .int a0)] d_M_surely_62 rfl (by decide) rfl ?_
        refine g_iload_n C0 3 d_M_surely_63 rfl rfl ?_
        have hB := ite_some hE
        refine g_if_eq C0 (tgt := 77) d_M_surely_64 (by decide) (fun c_ => ?_) (fun c_ => ?_)
        · replace hE := hB.1 c_
          refine g_sub [3, 0] (L' := [(1, .int a0), (3, .int v61)]) rfl ?_
          exact w_M_surely_J77 C0 hr N a0 v61 h36 hE
        · replace hE := hB.2 c_
          refine g_iload_n C0 0 d_M_surely_67 rfl rfl ?_
          refine g_ldc C0 (v := 99999999) t_1393 d_M_surely_68 ?_
          have hB := ite_some hE
          refine g_icmp_eq C0 (tgt := 77) d_M_surely_70 (by decide) (fun c_ => ?_) (fun c_ => ?_)
          · replace hE := hB.1 c_
            refine g_sub [3, 0] (L' := [(1, .int a0), (3, .int v61)]) rfl ?_
            exact w_M_surely_J77 C0 hr N a0 v61 h36 hE
          · replace hE := hB.2 c_
            refine g_iload_n C0 0 d_M_surely_73 rfl rfl ?_
            have hB := ite_some hE
            refine g_if_ne C0 (tgt := 94) d_M_surely_74 (by decide) (fun c_ => ?_) (fun c_ => ?_)
            · replace hE := hB.2 c_
              refine g_iconst C0 (v := 0) d_M_surely_94 (by decide) ?_
              refine g_istore C0 [(4, .int 0), (3, .int v61), (2, .int v55), (0, .ref (ad 100)), (1, .int a0)] d_M_surely_95 (by decide) rfl ?_
              refine g_sub [3, 2, 1, 0] (L' := [(0, .ref (ad 100)), (2, .int v55), (3, .int v61), (4, .int 0)]) rfl ?_
              obtain ⟨t97, z97, hE⟩ := bd_some hE
              refine loopG (fun z_ : Int32 × Hp => K_M_surely_L97 N v55 v61 z_.1 z_.2) (fun z_ : Int32 × Hp => G p l e rm_M_surely s m args below meth c K A WM 5 0 0 _ 97 [(0, .ref (ad 100)), (2, .int v55), (3, .int v61), (4, .int z_.1)] [] ad z_.2) (fun z_ : Int32 × Hp => G p l e rm_M_surely s m args below meth c K A WM 5 0 0 _ 122 [(4, .int z_.1)] [] ad z_.2) (fun z_ x_ hz k1 k2 => w_M_surely_L97 C0 hr N v55 v61 z_.1 z_.2 hz k1 k2) _ _ _ z97 ?_
              try dsimp only
              refine g_iload C0 0 d_M_surely_122 rfl ?_
              obtain rfl := Option.some.inj hE
              exact g_iret C0 hr d_M_surely_124
            · replace hE := hB.1 c_
              refine g_sub [3, 0] (L' := [(1, .int a0), (3, .int v61)]) rfl ?_
              exact w_M_surely_J77 C0 hr N a0 v61 h36 hE
      · replace hE := hB.2 c_
        refine g_iconst C0 (v := (-1)) d_M_surely_33 (by decide) ?_
        obtain rfl := Option.some.inj hE
        exact g_iret C0 hr d_M_surely_34
    · replace hE := hB.2 c_
      refine g_ldc C0 (v := (-1000000003)) t_1296 d_M_surely_20 ?_
      obtain rfl := Option.some.inj hE
      exact g_iret C0 hr d_M_surely_22
  · replace hE := hB.1 c_
    refine g_ldc C0 (v := (-1000000002)) t_1199 d_M_surely_10 ?_
    obtain rfl := Option.some.inj hE
    exact g_iret C0 hr d_M_surely_12
theorem m_M_surely (l : Launch) (K : KT) (ad : Nat → Nat) (h : Hp) (N : Nat) (a0 : Int32) {res : Int32 × Hp} (hE : K_M_surely N a0 h = some res) : ConI l y_M_surely prog_13_method_73_code 5 (Option.some Jvm.ClassFile.FieldType.int) rm_M_surely K WM ad h [.ref (ad 100), .int a0] res.1 res.2 := fun sz =>
  con_start [(0, .ref (ad 100)), (1, .int a0)] (by decide +kernel) rfl (Nat.le_of_ble_eq_true rfl) (fun p e s m args below meth c C0 hr hnm hsz => w_M_surely C0 hr N a0 h hE)
abbrev y_M_byRule : MethodName := ⟨"CanoeSidesModel", "byRule", "(II)I"⟩
abbrev rm_M_byRule : Room := { frames := 0, cells := 0, slots := 0, locals := 0 }
theorem cd_M_byRule : cwd y_M_byRule 2 := by decide +kernel
theorem d_M_byRule_0 : decode prog_13_method_74_code 0 = .ok (.iload_n 0, 1) := by decide +kernel
theorem d_M_byRule_1 : decode prog_13_method_74_code 1 = .ok (.iconst 2, 1) := by decide +kernel
theorem d_M_byRule_2 : decode prog_13_method_74_code 2 = .ok (.if_icmp .ge 7, 3) := by decide +kernel
theorem d_M_byRule_5 : decode prog_13_method_74_code 5 = .ok (.iload_n 0, 1) := by decide +kernel
theorem d_M_byRule_6 : decode prog_13_method_74_code 6 = .ok (.goto 20, 3) := by decide +kernel
theorem d_M_byRule_9 : decode prog_13_method_74_code 9 = .ok (.iload_n 0, 1) := by decide +kernel
theorem d_M_byRule_10 : decode prog_13_method_74_code 10 = .ok (.iconst 2, 1) := by decide +kernel
theorem d_M_byRule_11 : decode prog_13_method_74_code 11 = .ok (.if_icmp .eq 8, 3) := by decide +kernel
theorem d_M_byRule_14 : decode prog_13_method_74_code 14 = .ok (.iload_n 1, 1) := by decide +kernel
theorem d_M_byRule_15 : decode prog_13_method_74_code 15 = .ok (.iconst 1, 1) := by decide +kernel
theorem d_M_byRule_16 : decode prog_13_method_74_code 16 = .ok (.if_icmp .le 7, 3) := by decide +kernel
theorem d_M_byRule_19 : decode prog_13_method_74_code 19 = .ok (.iload_n 1, 1) := by decide +kernel
theorem d_M_byRule_20 : decode prog_13_method_74_code 20 = .ok (.goto 6, 3) := by decide +kernel
theorem d_M_byRule_23 : decode prog_13_method_74_code 23 = .ok (.iconst 1, 1) := by decide +kernel
theorem d_M_byRule_24 : decode prog_13_method_74_code 24 = .ok (.iload_n 1, 1) := by decide +kernel
theorem d_M_byRule_25 : decode prog_13_method_74_code 25 = .ok (.isub, 1) := by decide +kernel
theorem d_M_byRule_26 : decode prog_13_method_74_code 26 = .ok (.ireturn, 1) := by decide +kernel
theorem w_M_byRule_J19 {p : Program} {l : Launch} {e : Env} {s : State} {m : MethodId} {args : Array Value} {below : List Frame} {meth : Method} {c : Code} {K : KT} {A : Nat → Prop} (C0 : Cx p s m args meth c prog_13_method_74_code "CanoeSidesModel" 2 K A) (hr : meth.sig.returnType = (Option.some Jvm.ClassFile.FieldType.int)) {ad : Nat → Nat} (x1 : Int32) (h : Hp) {res : Int32} (hE : K_M_byRule_J19 x1 = some res) : G p l e rm_M_byRule s m args below meth c K A WE 2 0 0 (QI s args below K A WE 0 0 ad res h) 19 [(1, .int x1)] [] ad h := by
  unfold K_M_byRule_J19 at hE
  refine g_iload_n C0 0 d_M_byRule_19 rfl rfl ?_
  refine g_goto C0 (tgt := 26) d_M_byRule_20 (by decide) ?_
  obtain rfl := Option.some.inj hE
  exact g_iret C0 hr d_M_byRule_26
theorem w_M_byRule {p : Program} {l : Launch} {e : Env} {s : State} {m : MethodId} {args : Array Value} {below : List Frame} {meth : Method} {c : Code} {K : KT} {A : Nat → Prop} (C0 : Cx p s m args meth c prog_13_method_74_code "CanoeSidesModel" 2 K A) (hr : meth.sig.returnType = (Option.some Jvm.ClassFile.FieldType.int)) {ad : Nat → Nat} (a0 : Int32) (b0 : Int32) (h : Hp) {res : Int32} (hE : K_M_byRule a0 b0 = some res) : G p l e rm_M_byRule s m args below meth c K A WE 2 0 0 (QI s args below K A WE 0 0 ad res h) 0 [(0, .int a0), (1, .int b0)] [] ad h := by
  unfold K_M_byRule at hE
  refine g_iload_n C0 0 d_M_byRule_0 rfl rfl ?_
  refine g_iconst C0 (v := 2) d_M_byRule_1 (by decide) ?_
  have hB := ite_some hE
  refine g_icmp_ge C0 (tgt := 9) d_M_byRule_2 (by decide) (fun c_ => ?_) (fun c_ => ?_)
  · replace hE := hB.1 c_
    refine g_iload_n C0 0 d_M_byRule_9 rfl rfl ?_
    refine g_iconst C0 (v := 2) d_M_byRule_10 (by decide) ?_
    have hB := ite_some hE
    refine g_icmp_eq C0 (tgt := 19) d_M_byRule_11 (by decide) (fun c_ => ?_) (fun c_ => ?_)
    · replace hE := hB.1 c_
      refine g_sub [1] (L' := [(1, .int b0)]) rfl ?_
      exact w_M_byRule_J19 C0 hr b0 h hE
    · replace hE := hB.2 c_
      refine g_iload_n C0 1 d_M_byRule_14 rfl rfl ?_
      refine g_iconst C0 (v := 1) d_M_byRule_15 (by decide) ?_
      have hB := ite_some hE
      refine g_icmp_le C0 (tgt := 23) d_M_byRule_16 (by decide) (fun c_ => ?_) (fun c_ => ?_)
      · replace hE := hB.1 c_
        refine g_iconst C0 (v := 1) d_M_byRule_23 (by decide) ?_
        refine g_iload_n C0 1 d_M_byRule_24 rfl rfl ?_
        refine g_isub C0 d_M_byRule_25 ?_
        obtain rfl := Option.some.inj hE
        exact g_iret C0 hr d_M_byRule_26
      · replace hE := hB.2 c_
        refine g_sub [1] (L' := [(1, .int b0)]) rfl ?_
        exact w_M_byRule_J19 C0 hr b0 h hE
  · replace hE := hB.2 c_
    refine g_iload_n C0 0 d_M_byRule_5 rfl rfl ?_
    refine g_goto C0 (tgt := 26) d_M_byRule_6 (by decide) ?_
    obtain rfl := Option.some.inj hE
    exact g_iret C0 hr d_M_byRule_26
theorem m_M_byRule (l : Launch) (K : KT) (ad : Nat → Nat) (h : Hp) (a0 : Int32) (b0 : Int32) {res : Int32} (hE : K_M_byRule a0 b0 = some res) : ConI l y_M_byRule prog_13_method_74_code 2 (Option.some Jvm.ClassFile.FieldType.int) rm_M_byRule K WE ad h [.int a0, .int b0] res h := fun sz =>
  con_start [(0, .int a0), (1, .int b0)] (by decide +kernel) rfl (Nat.le_of_ble_eq_true rfl) (fun p e s m args below meth c C0 hr hnm hsz => w_M_byRule C0 hr a0 b0 h hE)
abbrev y_M_strokesBy : MethodName := ⟨"CanoeSidesModel", "strokesBy", "(II)I"⟩
abbrev rm_M_strokesBy : Room := { frames := 6, cells := 0, slots := 0, locals := 147 }
theorem cd_M_strokesBy : cwd y_M_strokesBy 2 := by decide +kernel
theorem d_M_strokesBy_0 : decode prog_13_method_75_code 0 = .ok (.aload_n 0, 1) := by decide +kernel
theorem d_M_strokesBy_1 : decode prog_13_method_75_code 1 = .ok (.invokevirtual 265, 3) := by decide +kernel
theorem d_M_strokesBy_4 : decode prog_13_method_75_code 4 = .ok (.istore_n 3, 1) := by decide +kernel
theorem d_M_strokesBy_5 : decode prog_13_method_75_code 5 = .ok (.iconst 0, 1) := by decide +kernel
theorem d_M_strokesBy_6 : decode prog_13_method_75_code 6 = .ok (.istore 4, 2) := by decide +kernel
theorem d_M_strokesBy_8 : decode prog_13_method_75_code 8 = .ok (.iconst 0, 1) := by decide +kernel
theorem d_M_strokesBy_9 : decode prog_13_method_75_code 9 = .ok (.istore 5, 2) := by decide +kernel
theorem d_M_strokesBy_11 : decode prog_13_method_75_code 11 = .ok (.iconst 0, 1) := by decide +kernel
theorem d_M_strokesBy_12 : decode prog_13_method_75_code 12 = .ok (.istore 6, 2) := by decide +kernel
theorem d_M_strokesBy_14 : decode prog_13_method_75_code 14 = .ok (.iload 6, 2) := by decide +kernel
theorem d_M_strokesBy_16 : decode prog_13_method_75_code 16 = .ok (.bipush 60, 2) := by decide +kernel
theorem d_M_strokesBy_18 : decode prog_13_method_75_code 18 = .ok (.if_icmp .gt 50, 3) := by decide +kernel
theorem d_M_strokesBy_21 : decode prog_13_method_75_code 21 = .ok (.aload_n 0, 1) := by decide +kernel
theorem d_M_strokesBy_22 : decode prog_13_method_75_code 22 = .ok (.iload_n 3, 1) := by decide +kernel
theorem d_M_strokesBy_23 : decode prog_13_method_75_code 23 = .ok (.invokevirtual 253, 3) := by decide +kernel
theorem d_M_strokesBy_26 : decode prog_13_method_75_code 26 = .ok (.ifCond .eq 6, 3) := by decide +kernel
theorem d_M_strokesBy_29 : decode prog_13_method_75_code 29 = .ok (.iload 6, 2) := by decide +kernel
theorem d_M_strokesBy_31 : decode prog_13_method_75_code 31 = .ok (.ireturn, 1) := by decide +kernel
theorem d_M_strokesBy_32 : decode prog_13_method_75_code 32 = .ok (.aload_n 0, 1) := by decide +kernel
theorem d_M_strokesBy_33 : decode prog_13_method_75_code 33 = .ok (.iload_n 3, 1) := by decide +kernel
theorem d_M_strokesBy_34 : decode prog_13_method_75_code 34 = .ok (.iload 4, 2) := by decide +kernel
theorem d_M_strokesBy_36 : decode prog_13_method_75_code 36 = .ok (.iload 5, 2) := by decide +kernel
theorem d_M_strokesBy_38 : decode prog_13_method_75_code 38 = .ok (.invokevirtual 247, 3) := by decide +kernel
theorem d_M_strokesBy_41 : decode prog_13_method_75_code 41 = .ok (.istore_n 3, 1) := by decide +kernel
theorem d_M_strokesBy_42 : decode prog_13_method_75_code 42 = .ok (.iload_n 1, 1) := by decide +kernel
theorem d_M_strokesBy_43 : decode prog_13_method_75_code 43 = .ok (.iload 5, 2) := by decide +kernel
theorem d_M_strokesBy_45 : decode prog_13_method_75_code 45 = .ok (.invokestatic 305, 3) := by decide +kernel
theorem d_M_strokesBy_48 : decode prog_13_method_75_code 48 = .ok (.istore 7, 2) := by decide +kernel
theorem d_M_strokesBy_50 : decode prog_13_method_75_code 50 = .ok (.iload_n 2, 1) := by decide +kernel
theorem d_M_strokesBy_51 : decode prog_13_method_75_code 51 = .ok (.iload 4, 2) := by decide +kernel
theorem d_M_strokesBy_53 : decode prog_13_method_75_code 53 = .ok (.invokestatic 305, 3) := by decide +kernel
theorem d_M_strokesBy_56 : decode prog_13_method_75_code 56 = .ok (.istore 5, 2) := by decide +kernel
theorem d_M_strokesBy_58 : decode prog_13_method_75_code 58 = .ok (.iload 7, 2) := by decide +kernel
theorem d_M_strokesBy_60 : decode prog_13_method_75_code 60 = .ok (.istore 4, 2) := by decide +kernel
theorem d_M_strokesBy_62 : decode prog_13_method_75_code 62 = .ok (.iinc 6 1, 3) := by decide +kernel
theorem d_M_strokesBy_65 : decode prog_13_method_75_code 65 = .ok (.goto (-51), 3) := by decide +kernel
theorem d_M_strokesBy_68 : decode prog_13_method_75_code 68 = .ok (.ldc 240, 2) := by decide +kernel
theorem d_M_strokesBy_70 : decode prog_13_method_75_code 70 = .ok (.ireturn, 1) := by decide +kernel
theorem w_M_strokesBy_L14 {p : Program} {l : Launch} {e : Env} {s : State} {m : MethodId} {args : Array Value} {below : List Frame} {meth : Method} {c : Code} {K : KT} {A : Nat → Prop} {Q : State → Prop} (C0 : Cx p s m args meth c prog_13_method_75_code "CanoeSidesModel" 8 K A) (hr : meth.sig.returnType = (Option.some Jvm.ClassFile.FieldType.int)) {ad : Nat → Nat} (N : Nat) (x1 : Int32) (x2 : Int32) (x3 : Int32) (x4 : Int32) (x5 : Int32) (x6 : Int32) (h : Hp) {x_ : (Int32 × Int32 × Int32 × Int32 × Hp) ⊕ (Int32 × Hp) ⊕ (Hp)} (hE : K_M_strokesBy_L14 N x1 x2 x3 x4 x5 x6 h = some x_) (hk1 : ∀ z_, x_ = .inl z_ → G p l e rm_M_strokesBy s m args below meth c K A WM 8 0 0 Q 14 [(0, .ref (ad 100)), (1, .int x1), (2, .int x2), (3, .int z_.1), (4, .int z_.2.1), (5, .int z_.2.2.1), (6, .int z_.2.2.2.1)] [] ad z_.2.2.2.2) (hk2 : ∀ r_, x_ = .inr (.inl r_) → Q = (QI s args below K A WM 0 0 ad r_.1 r_.2)) (hk3 : ∀ z_, x_ = .inr (.inr z_) → G p l e rm_M_strokesBy s m args below meth c K A WM 8 0 0 Q 68 [] [] ad z_) : G p l e rm_M_strokesBy s m args below meth c K A WM 8 0 0 Q 14 [(0, .ref (ad 100)), (1, .int x1), (2, .int x2), (3, .int x3), (4, .int x4), (5, .int x5), (6, .int x6)] [] ad h := by
  unfold K_M_strokesBy_L14 at hE
  refine g_iload C0 6 d_M_strokesBy_14 rfl ?_
  refine g_bipush C0 (v := 60) d_M_strokesBy_16 (by decide) ?_
  have hB := ite_some hE
  refine g_icmp_gt C0 (tgt := 68) d_M_strokesBy_18 (by decide) (fun c_ => ?_) (fun c_ => ?_)
  · replace hE := hB.1 c_
    refine g_sub [] (L' := []) rfl ?_
    exact hk3 _ (Option.some.inj hE).symm
  · replace hE := hB.2 c_
    refine g_aload_n C0 0 d_M_strokesBy_21 rfl rfl ?_
    refine g_iload_n C0 3 d_M_strokesBy_22 rfl rfl ?_
    obtain ⟨v23, z23, hE⟩ := bd_some hE
    refine g_calliP C0 nd_M [100, 101, 102, 103, 104, 105, 106, 107, 108, 109, 110, 111, 112, 113, 114, 115] rfl (sbW_self WM) (runV C0 (m_M_isGoalState l K ad h x3 z23) 1 rfl ⟨t_1389, t_1391, t_67, t_97, t_1392⟩ cd_M_isGoalState (by decide) 0 rfl rfl (sbW_self WM) nd_M rfl rfl (Nat.le_of_ble_eq_true rfl) d_M_strokesBy_23) ?_
    have hB := ite_some hE
    refine g_if_eq C0 (tgt := 32) d_M_strokesBy_26 (by decide) (fun c_ => ?_) (fun c_ => ?_)
    · replace hE := hB.1 c_
      refine g_aload_n C0 0 d_M_strokesBy_32 rfl rfl ?_
      refine g_iload_n C0 3 d_M_strokesBy_33 rfl rfl ?_
      refine g_iload C0 4 d_M_strokesBy_34 rfl ?_
      refine g_iload C0 5 d_M_strokesBy_36 rfl ?_
      obtain ⟨v38, h38, z38, hE⟩ := bd2_some hE
      refine g_calli C0 nd_M [100, 101, 102, 103, 104, 105, 106, 107, 108, 109, 110, 111, 112, 113, 114, 115] rfl (sbW_self WM) (runV C0 (m_M_after l K ad h N x3 x4 x5 z38) 3 rfl ⟨t_1398, t_1400, t_69, t_97, t_1401⟩ cd_M_after (by decide) 0 rfl rfl (sbW_self WM) nd_M rfl rfl (Nat.le_of_ble_eq_true rfl) d_M_strokesBy_38) ?_
      refine g_mx [100, 101, 102, 103, 104, 105, 106, 107, 108, 109, 110, 111, 112, 113, 114, 115] rfl ?_
      refine g_istore_n C0 [(3, .int v38), (0, .ref (ad 100)), (1, .int x1), (2, .int x2), (4, .int x4), (5, .int x5), (6, .int x6)] d_M_strokesBy_41 rfl (by decide) rfl ?_
      refine g_iload_n C0 2 d_M_strokesBy_42 rfl rfl ?_
      refine g_iload C0 5 d_M_strokesBy_43 rfl ?_
      obtain ⟨v45, z45, hE⟩ := bd_some hE
      refine g_calliP C0 nd_M [] rfl (sb_E_M) (runS C0 (m_M_byRule l K ad h38 x1 x5 z45) 2 ⟨t_1490, t_1491, t_97, t_1492⟩ cd_M_byRule (by decide) (sb_E_M) nd_E rfl rfl (Nat.le_of_ble_eq_true rfl) d_M_strokesBy_45) ?_
      refine g_istore C0 [(7, .int v45), (3, .int v38), (0, .ref (ad 100)), (1, .int x1), (2, .int x2), (4, .int x4), (5, .int x5), (6, .int x6)] d_M_strokesBy_48 (by decide) rfl ?_
      refine g_iload_n C0 4 d_M_strokesBy_50 rfl rfl ?_
      refine g_iload C0 5 d_M_strokesBy_51 rfl ?_
      obtain ⟨v53, z53, hE⟩ := bd_some hE
      refine g_calliP C0 nd_M [] rfl (sb_E_M) (runS C0 (m_M_byRule l K ad h38 x2 x4 z53) 2 ⟨t_1490, t_1491, t_97, t_1492⟩ cd_M_byRule (by decide) (sb_E_M) nd_E rfl rfl (Nat.le_of_ble_eq_true rfl) d_M_strokesBy_53) ?_
      refine g_istore C0 [(5, .int v53), (7, .int v45), (3, .int v38), (0, .ref (ad 100)), (1, .int x1), (2, .int x2), (4, .int x4), (6, .int x6)] d_M_strokesBy_56 (by decide) rfl ?_
      refine g_iload C0 1 d_M_strokesBy_58 rfl ?_
      refine g_istore C0 [(4, .int v45), (5, .int v53), (7, .int v45), (3, .int v38), (0, .ref (ad 100)), (1, .int x1), (2, .int x2), (6, .int x6)] d_M_strokesBy_60 (by decide) rfl ?_
      obtain ⟨v62, e62, hE⟩ := nm_some hE
      refine g_iinc C0 7 [(6, .int v62), (4, .int v45), (5, .int v53), (7, .int v45), (3, .int v38), (0, .ref (ad 100)), (1, .int x1), (2, .int x2)] d_M_strokesBy_62 rfl (by rw [e62]; rfl) (by decide) rfl ?_
      refine g_goto C0 (tgt := 14) d_M_strokesBy_65 (by decide) ?_
      refine g_sub [5, 6, 7, 4, 1, 2, 0] (L' := [(0, .ref (ad 100)), (1, .int x1), (2, .int x2), (3, .int v38), (4, .int v45), (5, .int v53), (6, .int v62)]) rfl ?_
      exact hk1 _ (Option.some.inj hE).symm
    · replace hE := hB.2 c_
      refine g_iload C0 6 d_M_strokesBy_29 rfl ?_
      have hq := hk2 _ (Option.some.inj hE).symm
      rw [hq]
      exact g_iret C0 hr d_M_strokesBy_31
theorem w_M_strokesBy {p : Program} {l : Launch} {e : Env} {s : State} {m : MethodId} {args : Array Value} {below : List Frame} {meth : Method} {c : Code} {K : KT} {A : Nat → Prop} (C0 : Cx p s m args meth c prog_13_method_75_code "CanoeSidesModel" 8 K A) (hr : meth.sig.returnType = (Option.some Jvm.ClassFile.FieldType.int)) {ad : Nat → Nat} (N : Nat) (a0 : Int32) (b0 : Int32) (h : Hp) {res : Int32 × Hp} (hE : K_M_strokesBy N a0 b0 h = some res) : G p l e rm_M_strokesBy s m args below meth c K A WM 8 0 0 (QI s args below K A WM 0 0 ad res.1 res.2) 0 [(0, .ref (ad 100)), (1, .int a0), (2, .int b0)] [] ad h := by
  unfold K_M_strokesBy at hE
  refine g_aload_n C0 0 d_M_strokesBy_0 rfl rfl ?_
  obtain ⟨v1, z1, hE⟩ := bd_some hE
  refine g_calliP C0 nd_M [100, 101, 102, 103, 104, 105, 106, 107, 108, 109, 110, 111, 112, 113, 114, 115] rfl (sbW_self WM) (runV C0 (m_M_stateNow l K ad h z1) 0 rfl ⟨t_1406, t_1408, t_71, t_97, t_1409⟩ cd_M_stateNow (by decide) 0 rfl rfl (sbW_self WM) nd_M rfl rfl (Nat.le_of_ble_eq_true rfl) d_M_strokesBy_1) ?_
  refine g_istore_n C0 [(3, .int v1), (0, .ref (ad 100)), (1, .int a0), (2, .int b0)] d_M_strokesBy_4 rfl (by decide) rfl ?_
  refine g_iconst C0 (v := 0) d_M_strokesBy_5 (by decide) ?_
  refine g_istore C0 [(4, .int 0), (3, .int v1), (0, .ref (ad 100)), (1, .int a0), (2, .int b0)] d_M_strokesBy_6 (by decide) rfl ?_
  refine g_iconst C0 (v := 0) d_M_strokesBy_8 (by decide) ?_
  refine g_istore C0 [(5, .int 0), (4, .int 0), (3, .int v1), (0, .ref (ad 100)), (1, .int a0), (2, .int b0)] d_M_strokesBy_9 (by decide) rfl ?_
  refine g_iconst C0 (v := 0) d_M_strokesBy_11 (by decide) ?_
  refine g_istore C0 [(6, .int 0), (5, .int 0), (4, .int 0), (3, .int v1), (0, .ref (ad 100)), (1, .int a0), (2, .int b0)] d_M_strokesBy_12 (by decide) rfl ?_
  refine g_sub [4, 5, 6, 3, 2, 1, 0] (L' := [(0, .ref (ad 100)), (1, .int a0), (2, .int b0), (3, .int v1), (4, .int 0), (5, .int 0), (6, .int 0)]) rfl ?_
  obtain ⟨t14, z14, hE⟩ := bd_some hE
  refine loopG (fun z_ : Int32 × Int32 × Int32 × Int32 × Hp => K_M_strokesBy_L14 N a0 b0 z_.1 z_.2.1 z_.2.2.1 z_.2.2.2.1 z_.2.2.2.2) (fun z_ : Int32 × Int32 × Int32 × Int32 × Hp => G p l e rm_M_strokesBy s m args below meth c K A WM 8 0 0 _ 14 [(0, .ref (ad 100)), (1, .int a0), (2, .int b0), (3, .int z_.1), (4, .int z_.2.1), (5, .int z_.2.2.1), (6, .int z_.2.2.2.1)] [] ad z_.2.2.2.2) (fun z_ : (Int32 × Hp) ⊕ (Hp) => (∀ r_, z_ = .inl r_ → _ = (QI s args below K A WM 0 0 ad r_.1 r_.2)) ∧ (∀ y_, z_ = .inr y_ → G p l e rm_M_strokesBy s m args below meth c K A WM 8 0 0 _ 68 [] [] ad y_)) (fun z_ x_ hz k1 k2 => w_M_strokesBy_L14 C0 hr N a0 b0 z_.1 z_.2.1 z_.2.2.1 z_.2.2.2.1 z_.2.2.2.2 hz k1 (fun r_ hr_ => (k2 _ hr_).1 _ rfl) (fun y_ hy_ => (k2 _ hy_).2 _ rfl)) _ _ _ z14 ?_
  refine ⟨fun r_ e_ => ?_, fun t14x e_ => ?_⟩
  · subst e_
    replace hE := el_inl hE
    exact Option.some.inj hE ▸ rfl
  · subst e_
    replace hE := el_inr hE
    try dsimp only
    refine g_ldc C0 (v := 99999999) t_1393 d_M_strokesBy_68 ?_
    obtain rfl := Option.some.inj hE
    exact g_iret C0 hr d_M_strokesBy_70
theorem m_M_strokesBy (l : Launch) (K : KT) (ad : Nat → Nat) (h : Hp) (N : Nat) (a0 : Int32) (b0 : Int32) {res : Int32 × Hp} (hE : K_M_strokesBy N a0 b0 h = some res) : ConI l y_M_strokesBy prog_13_method_75_code 8 (Option.some Jvm.ClassFile.FieldType.int) rm_M_strokesBy K WM ad h [.ref (ad 100), .int a0, .int b0] res.1 res.2 := fun sz =>
  con_start [(0, .ref (ad 100)), (1, .int a0), (2, .int b0)] (by decide +kernel) rfl (Nat.le_of_ble_eq_true rfl) (fun p e s m args below meth c C0 hr hnm hsz => w_M_strokesBy C0 hr N a0 b0 h hE)
abbrev y_M_rules : MethodName := ⟨"CanoeSidesModel", "rules", "(I)I"⟩
abbrev rm_M_rules : Room := { frames := 7, cells := 0, slots := 0, locals := 174 }
theorem cd_M_rules : cwd y_M_rules 1 := by decide +kernel
theorem d_M_rules_0 : decode prog_13_method_76_code 0 = .ok (.iload_n 1, 1) := by decide +kernel
theorem d_M_rules_1 : decode prog_13_method_76_code 1 = .ok (.i2l, 1) := by decide +kernel
theorem d_M_rules_2 : decode prog_13_method_76_code 2 = .ok (.lconst 0, 1) := by decide +kernel
theorem d_M_rules_3 : decode prog_13_method_76_code 3 = .ok (.ldc2_w 278, 3) := by decide +kernel
theorem d_M_rules_6 : decode prog_13_method_76_code 6 = .ok (.invokestatic 67, 3) := by decide +kernel
theorem d_M_rules_9 : decode prog_13_method_76_code 9 = .ok (.ifCond .ne 6, 3) := by decide +kernel
theorem d_M_rules_12 : decode prog_13_method_76_code 12 = .ok (.ldc 71, 2) := by decide +kernel
theorem d_M_rules_14 : decode prog_13_method_76_code 14 = .ok (.ireturn, 1) := by decide +kernel
theorem d_M_rules_15 : decode prog_13_method_76_code 15 = .ok (.aload_n 0, 1) := by decide +kernel
theorem d_M_rules_16 : decode prog_13_method_76_code 16 = .ok (.invokevirtual 143, 3) := by decide +kernel
theorem d_M_rules_19 : decode prog_13_method_76_code 19 = .ok (.ifCond .eq 6, 3) := by decide +kernel
theorem d_M_rules_22 : decode prog_13_method_76_code 22 = .ok (.ldc 215, 2) := by decide +kernel
theorem d_M_rules_24 : decode prog_13_method_76_code 24 = .ok (.ireturn, 1) := by decide +kernel
theorem d_M_rules_25 : decode prog_13_method_76_code 25 = .ok (.aload_n 0, 1) := by decide +kernel
theorem d_M_rules_26 : decode prog_13_method_76_code 26 = .ok (.iconst 0, 1) := by decide +kernel
theorem d_M_rules_27 : decode prog_13_method_76_code 27 = .ok (.putfield 166, 3) := by decide +kernel
theorem d_M_rules_30 : decode prog_13_method_76_code 30 = .ok (.iconst 0, 1) := by decide +kernel
theorem d_M_rules_31 : decode prog_13_method_76_code 31 = .ok (.istore_n 2, 1) := by decide +kernel
theorem d_M_rules_32 : decode prog_13_method_76_code 32 = .ok (.ldc 240, 2) := by decide +kernel
theorem d_M_rules_34 : decode prog_13_method_76_code 34 = .ok (.istore_n 3, 1) := by decide +kernel
theorem d_M_rules_35 : decode prog_13_method_76_code 35 = .ok (.iconst 0, 1) := by decide +kernel
theorem d_M_rules_36 : decode prog_13_method_76_code 36 = .ok (.istore 4, 2) := by decide +kernel
theorem d_M_rules_38 : decode prog_13_method_76_code 38 = .ok (.iload 4, 2) := by decide +kernel
theorem d_M_rules_40 : decode prog_13_method_76_code 40 = .ok (.bipush 16, 2) := by decide +kernel
theorem d_M_rules_42 : decode prog_13_method_76_code 42 = .ok (.if_icmp .ge 35, 3) := by decide +kernel
theorem d_M_rules_45 : decode prog_13_method_76_code 45 = .ok (.aload_n 0, 1) := by decide +kernel
theorem d_M_rules_46 : decode prog_13_method_76_code 46 = .ok (.iload 4, 2) := by decide +kernel
theorem d_M_rules_48 : decode prog_13_method_76_code 48 = .ok (.iconst 4, 1) := by decide +kernel
theorem d_M_rules_49 : decode prog_13_method_76_code 49 = .ok (.idiv, 1) := by decide +kernel
theorem d_M_rules_50 : decode prog_13_method_76_code 50 = .ok (.iload 4, 2) := by decide +kernel
theorem d_M_rules_52 : decode prog_13_method_76_code 52 = .ok (.iconst 4, 1) := by decide +kernel
theorem d_M_rules_53 : decode prog_13_method_76_code 53 = .ok (.irem, 1) := by decide +kernel
theorem d_M_rules_54 : decode prog_13_method_76_code 54 = .ok (.invokevirtual 308, 3) := by decide +kernel
theorem d_M_rules_57 : decode prog_13_method_76_code 57 = .ok (.istore 5, 2) := by decide +kernel
theorem d_M_rules_59 : decode prog_13_method_76_code 59 = .ok (.iload 5, 2) := by decide +kernel
theorem d_M_rules_61 : decode prog_13_method_76_code 61 = .ok (.iload_n 3, 1) := by decide +kernel
theorem d_M_rules_62 : decode prog_13_method_76_code 62 = .ok (.if_icmp .ge 9, 3) := by decide +kernel
theorem d_M_rules_65 : decode prog_13_method_76_code 65 = .ok (.iload 4, 2) := by decide +kernel
theorem d_M_rules_67 : decode prog_13_method_76_code 67 = .ok (.istore_n 2, 1) := by decide +kernel
theorem d_M_rules_68 : decode prog_13_method_76_code 68 = .ok (.iload 5, 2) := by decide +kernel
theorem d_M_rules_70 : decode prog_13_method_76_code 70 = .ok (.istore_n 3, 1) := by decide +kernel
theorem d_M_rules_71 : decode prog_13_method_76_code 71 = .ok (.iinc 4 1, 3) := by decide +kernel
theorem d_M_rules_74 : decode prog_13_method_76_code 74 = .ok (.goto (-36), 3) := by decide +kernel
theorem d_M_rules_77 : decode prog_13_method_76_code 77 = .ok (.iload_n 3, 1) := by decide +kernel
theorem d_M_rules_78 : decode prog_13_method_76_code 78 = .ok (.ldc 240, 2) := by decide +kernel
theorem d_M_rules_80 : decode prog_13_method_76_code 80 = .ok (.if_icmp .ne 7, 3) := by decide +kernel
theorem d_M_rules_83 : decode prog_13_method_76_code 83 = .ok (.iconst (-1), 1) := by decide +kernel
theorem d_M_rules_84 : decode prog_13_method_76_code 84 = .ok (.goto 25, 3) := by decide +kernel
theorem d_M_rules_87 : decode prog_13_method_76_code 87 = .ok (.iload_n 1, 1) := by decide +kernel
theorem d_M_rules_88 : decode prog_13_method_76_code 88 = .ok (.ifCond .ne 7, 3) := by decide +kernel
theorem d_M_rules_91 : decode prog_13_method_76_code 91 = .ok (.iload_n 3, 1) := by decide +kernel
theorem d_M_rules_92 : decode prog_13_method_76_code 92 = .ok (.goto 17, 3) := by decide +kernel
theorem d_M_rules_95 : decode prog_13_method_76_code 95 = .ok (.iload_n 1, 1) := by decide +kernel
theorem d_M_rules_96 : decode prog_13_method_76_code 96 = .ok (.iconst 1, 1) := by decide +kernel
theorem d_M_rules_97 : decode prog_13_method_76_code 97 = .ok (.if_icmp .ne 9, 3) := by decide +kernel
theorem d_M_rules_100 : decode prog_13_method_76_code 100 = .ok (.iload_n 2, 1) := by decide +kernel
theorem d_M_rules_101 : decode prog_13_method_76_code 101 = .ok (.iconst 4, 1) := by decide +kernel
theorem d_M_rules_102 : decode prog_13_method_76_code 102 = .ok (.idiv, 1) := by decide +kernel
theorem d_M_rules_103 : decode prog_13_method_76_code 103 = .ok (.goto 6, 3) := by decide +kernel
theorem d_M_rules_106 : decode prog_13_method_76_code 106 = .ok (.iload_n 2, 1) := by decide +kernel
theorem d_M_rules_107 : decode prog_13_method_76_code 107 = .ok (.iconst 4, 1) := by decide +kernel
theorem d_M_rules_108 : decode prog_13_method_76_code 108 = .ok (.irem, 1) := by decide +kernel
theorem d_M_rules_109 : decode prog_13_method_76_code 109 = .ok (.ireturn, 1) := by decide +kernel
theorem w_M_rules_L38 {p : Program} {l : Launch} {e : Env} {s : State} {m : MethodId} {args : Array Value} {below : List Frame} {meth : Method} {c : Code} {K : KT} {A : Nat → Prop} {Q : State → Prop} (C0 : Cx p s m args meth c prog_13_method_76_code "CanoeSidesModel" 6 K A) (hr : meth.sig.returnType = (Option.some Jvm.ClassFile.FieldType.int)) {ad : Nat → Nat} (N : Nat) (x1 : Int32) (x2 : Int32) (x3 : Int32) (x4 : Int32) (h : Hp) {x_ : (Int32 × Int32 × Int32 × Hp) ⊕ (Int32 × Int32 × Hp)} (hE : K_M_rules_L38 N x1 x2 x3 x4 h = some x_) (hk1 : ∀ z_, x_ = .inl z_ → G p l e rm_M_rules s m args below meth c K A WM 6 0 0 Q 38 [(0, .ref (ad 100)), (1, .int x1), (2, .int z_.1), (3, .int z_.2.1), (4, .int z_.2.2.1)] [] ad z_.2.2.2) (hk3 : ∀ z_, x_ = .inr z_ → G p l e rm_M_rules s m args below meth c K A WM 6 0 0 Q 77 [(1, .int x1), (2, .int z_.1), (3, .int z_.2.1)] [] ad z_.2.2) : G p l e rm_M_rules s m args below meth c K A WM 6 0 0 Q 38 [(0, .ref (ad 100)), (1, .int x1), (2, .int x2), (3, .int x3), (4, .int x4)] [] ad h := by
  unfold K_M_rules_L38 at hE
  refine g_iload C0 4 d_M_rules_38 rfl ?_
  refine g_bipush C0 (v := 16) d_M_rules_40 (by decide) ?_
  have hB := ite_some hE
  refine g_icmp_ge C0 (tgt := 77) d_M_rules_42 (by decide) (fun c_ => ?_) (fun c_ => ?_)
  · replace hE := hB.1 c_
    refine g_sub [1, 2, 3] (L' := [(1, .int x1), (2, .int x2), (3, .int x3)]) rfl ?_
    exact hk3 _ (Option.some.inj hE).symm
  · replace hE := hB.2 c_
    refine g_aload_n C0 0 d_M_rules_45 rfl rfl ?_
    refine g_iload C0 4 d_M_rules_46 rfl ?_
    refine g_iconst C0 (v := 4) d_M_rules_48 (by decide) ?_
    refine g_idiv C0 d_M_rules_49 (by decide) ?_
    refine g_iload C0 4 d_M_rules_50 rfl ?_
    refine g_iconst C0 (v := 4) d_M_rules_52 (by decide) ?_
    refine g_irem C0 d_M_rules_53 (by decide) ?_
    obtain ⟨v54, h54, z54, hE⟩ := bd2_some hE
    refine g_calli C0 nd_M [100, 101, 102, 103, 104, 105, 106, 107, 108, 109, 110, 111, 112, 113, 114, 115] rfl (sbW_self WM) (runV C0 (m_M_strokesBy l K ad h N (x4 / 4) (rm32 x4 4) z54) 2 rfl ⟨t_1486, t_1488, t_80, t_97, t_1489⟩ cd_M_strokesBy (by decide) 0 rfl rfl (sbW_self WM) nd_M rfl rfl (Nat.le_of_ble_eq_true rfl) d_M_rules_54) ?_
    refine g_mx [100, 101, 102, 103, 104, 105, 106, 107, 108, 109, 110, 111, 112, 113, 114, 115] rfl ?_
    refine g_istore C0 [(5, .int v54), (0, .ref (ad 100)), (1, .int x1), (2, .int x2), (3, .int x3), (4, .int x4)] d_M_rules_57 (by decide) rfl ?_
    refine g_iload C0 0 d_M_rules_59 rfl ?_
    refine g_iload_n C0 4 d_M_rules_61 rfl rfl ?_
    have hB := ite_some hE
    refine g_icmp_ge C0 (tgt := 71) d_M_rules_62 (by decide) (fun c_ => ?_) (fun c_ => ?_)
    · replace hE := hB.1 c_
      obtain ⟨v71, e71, hE⟩ := nm_some hE
      refine g_iinc C0 5 [(4, .int v71), (5, .int v54), (0, .ref (ad 100)), (1, .int x1), (2, .int x2), (3, .int x3)] d_M_rules_71 rfl (by rw [e71]; rfl) (by decide) rfl ?_
      refine g_goto C0 (tgt := 38) d_M_rules_74 (by decide) ?_
      refine g_sub [2, 3, 4, 5, 0] (L' := [(0, .ref (ad 100)), (1, .int x1), (2, .int x2), (3, .int x3), (4, .int v71)]) rfl ?_
      exact hk1 _ (Option.some.inj hE).symm
    · replace hE := hB.2 c_
      refine g_iload C0 5 d_M_rules_65 rfl ?_
      refine g_istore_n C0 [(2, .int x4), (5, .int v54), (0, .ref (ad 100)), (1, .int x1), (3, .int x3), (4, .int x4)] d_M_rules_67 rfl (by decide) rfl ?_
      refine g_iload C0 1 d_M_rules_68 rfl ?_
      refine g_istore_n C0 [(3, .int v54), (2, .int x4), (5, .int v54), (0, .ref (ad 100)), (1, .int x1), (4, .int x4)] d_M_rules_70 rfl (by decide) rfl ?_
      obtain ⟨v71, e71, hE⟩ := nm_some hE
      refine g_iinc C0 5 [(4, .int v71), (3, .int v54), (2, .int x4), (5, .int v54), (0, .ref (ad 100)), (1, .int x1)] d_M_rules_71 rfl (by rw [e71]; rfl) (by decide) rfl ?_
      refine g_goto C0 (tgt := 38) d_M_rules_74 (by decide) ?_
      refine g_sub [4, 5, 2, 1, 0] (L' := [(0, .ref (ad 100)), (1, .int x1), (2, .int x4), (3, .int v54), (4, .int v71)]) rfl ?_
      exact hk1 _ (Option.some.inj hE).symm
theorem w_M_rules {p : Program} {l : Launch} {e : Env} {s : State} {m : MethodId} {args : Array Value} {below : List Frame} {meth : Method} {c : Code} {K : KT} {A : Nat → Prop} (C0 : Cx p s m args meth c prog_13_method_76_code "CanoeSidesModel" 6 K A) (hr : meth.sig.returnType = (Option.some Jvm.ClassFile.FieldType.int)) {ad : Nat → Nat} (N : Nat) (a0 : Int32) (h : Hp) {res : Int32 × Hp} (hE : K_M_rules N a0 h = some res) : G p l e rm_M_rules s m args below meth c K A WM 6 0 0 (QI s args below K A WM 0 0 ad res.1 res.2) 0 [(0, .ref (ad 100)), (1, .int a0)] [] ad h := by
  unfold K_M_rules at hE
  refine g_iload_n C0 1 d_M_rules_0 rfl rfl ?_
  refine g_i2l C0 d_M_rules_1 ?_
  refine g_lconst C0 (v := 0) d_M_rules_2 (by decide) ?_
  refine g_ldc2 C0 (v := 2) t_1436 d_M_rules_3 ?_
  obtain ⟨v6, z6, hE⟩ := bd_some hE
  refine g_calliP C0 nd_M [] rfl (sb_E_M) (runS C0 (m_M_in l K ad h (Int32.toInt64 a0) 0 2 z6) 3 ⟨t_1196, t_1197, t_97, t_1198⟩ cd_M_in (by decide) (sb_E_M) nd_E rfl rfl (Nat.le_of_ble_eq_true rfl) d_M_rules_6) ?_
  have hB := ite_some hE
  refine g_if_ne C0 (tgt := 15) d_M_rules_9 (by decide) (fun c_ => ?_) (fun c_ => ?_)
  · replace hE := hB.2 c_
    refine g_aload_n C0 0 d_M_rules_15 rfl rfl ?_
    obtain ⟨v16, z16, hE⟩ := bd_some hE
    refine g_calliP C0 nd_M [100, 101, 102, 103, 104, 105, 106, 107, 108, 109, 110, 111, 112, 113, 114, 115] rfl (sbW_self WM) (runV C0 (m_M_isNone l K ad h z16) 0 rfl ⟨t_1264, t_1266, t_51, t_97, t_1267⟩ cd_M_isNone (by decide) 0 rfl rfl (sbW_self WM) nd_M rfl rfl (Nat.le_of_ble_eq_true rfl) d_M_rules_16) ?_
    have hB := ite_some hE
    refine g_if_eq C0 (tgt := 25) d_M_rules_19 (by decide) (fun c_ => ?_) (fun c_ => ?_)
    · replace hE := hB.1 c_
      refine g_aload_n C0 0 d_M_rules_25 rfl rfl ?_
      refine g_iconst C0 (v := 0) d_M_rules_26 (by decide) ?_
      obtain ⟨h27, e27, hE⟩ := nm_some hE
      refine g_puti C0 CK_11 CT_11 12 (by decide) t_1102 rfl (by decide +kernel) nd_M 0 rfl rfl d_M_rules_27 ?_
      refine g_heap e27 ?_
      refine g_iconst C0 (v := 0) d_M_rules_30 (by decide) ?_
      refine g_istore_n C0 [(2, .int 0), (0, .ref (ad 100)), (1, .int a0)] d_M_rules_31 rfl (by decide) rfl ?_
      refine g_ldc C0 (v := 99999999) t_1393 d_M_rules_32 ?_
      refine g_istore_n C0 [(3, .int 99999999), (2, .int 0), (0, .ref (ad 100)), (1, .int a0)] d_M_rules_34 rfl (by decide) rfl ?_
      refine g_iconst C0 (v := 0) d_M_rules_35 (by decide) ?_
      refine g_istore C0 [(4, .int 0), (3, .int 99999999), (2, .int 0), (0, .ref (ad 100)), (1, .int a0)] d_M_rules_36 (by decide) rfl ?_
      refine g_sub [3, 4, 2, 1, 0] (L' := [(0, .ref (ad 100)), (1, .int a0), (2, .int 0), (3, .int 99999999), (4, .int 0)]) rfl ?_
      obtain ⟨t38, z38, hE⟩ := bd_some hE
      refine loopG (fun z_ : Int32 × Int32 × Int32 × Hp => K_M_rules_L38 N a0 z_.1 z_.2.1 z_.2.2.1 z_.2.2.2) (fun z_ : Int32 × Int32 × Int32 × Hp => G p l e rm_M_rules s m args below meth c K A WM 6 0 0 _ 38 [(0, .ref (ad 100)), (1, .int a0), (2, .int z_.1), (3, .int z_.2.1), (4, .int z_.2.2.1)] [] ad z_.2.2.2) (fun z_ : Int32 × Int32 × Hp => G p l e rm_M_rules s m args below meth c K A WM 6 0 0 _ 77 [(1, .int a0), (2, .int z_.1), (3, .int z_.2.1)] [] ad z_.2.2) (fun z_ x_ hz k1 k2 => w_M_rules_L38 C0 hr N a0 z_.1 z_.2.1 z_.2.2.1 z_.2.2.2 hz k1 k2) _ _ _ z38 ?_
      try dsimp only
      refine g_iload_n C0 2 d_M_rules_77 rfl rfl ?_
      refine g_ldc C0 (v := 99999999) t_1393 d_M_rules_78 ?_
      have hB := ite_some hE
      refine g_icmp_ne C0 (tgt := 87) d_M_rules_80 (by decide) (fun c_ => ?_) (fun c_ => ?_)
      · replace hE := hB.2 c_
        refine g_iload_n C0 0 d_M_rules_87 rfl rfl ?_
        have hB := ite_some hE
        refine g_if_ne C0 (tgt := 95) d_M_rules_88 (by decide) (fun c_ => ?_) (fun c_ => ?_)
        · replace hE := hB.2 c_
          refine g_iload_n C0 0 d_M_rules_95 rfl rfl ?_
          refine g_iconst C0 (v := 1) d_M_rules_96 (by decide) ?_
          have hB := ite_some hE
          refine g_icmp_ne C0 (tgt := 106) d_M_rules_97 (by decide) (fun c_ => ?_) (fun c_ => ?_)
          · replace hE := hB.2 c_
            refine g_iload_n C0 1 d_M_rules_106 rfl rfl ?_
            refine g_iconst C0 (v := 4) d_M_rules_107 (by decide) ?_
            refine g_irem C0 d_M_rules_108 (by decide) ?_
            obtain rfl := Option.some.inj hE
            exact g_iret C0 hr d_M_rules_109
          · replace hE := hB.1 c_
            refine g_iload_n C0 1 d_M_rules_100 rfl rfl ?_
            refine g_iconst C0 (v := 4) d_M_rules_101 (by decide) ?_
            refine g_idiv C0 d_M_rules_102 (by decide) ?_
            refine g_goto C0 (tgt := 109) d_M_rules_103 (by decide) ?_
            obtain rfl := Option.some.inj hE
            exact g_iret C0 hr d_M_rules_109
        · replace hE := hB.1 c_
          refine g_iload_n C0 2 d_M_rules_91 rfl rfl ?_
          refine g_goto C0 (tgt := 109) d_M_rules_92 (by decide) ?_
          obtain rfl := Option.some.inj hE
          exact g_iret C0 hr d_M_rules_109
      · replace hE := hB.1 c_
        refine g_iconst C0 (v := (-1)) d_M_rules_83 (by decide) ?_
        refine g_goto C0 (tgt := 109) d_M_rules_84 (by decide) ?_
        obtain rfl := Option.some.inj hE
        exact g_iret C0 hr d_M_rules_109
    · replace hE := hB.2 c_
      refine g_ldc C0 (v := (-1000000003)) t_1296 d_M_rules_22 ?_
      obtain rfl := Option.some.inj hE
      exact g_iret C0 hr d_M_rules_24
  · replace hE := hB.1 c_
    refine g_ldc C0 (v := (-1000000002)) t_1199 d_M_rules_12 ?_
    obtain rfl := Option.some.inj hE
    exact g_iret C0 hr d_M_rules_14
theorem m_M_rules (l : Launch) (K : KT) (ad : Nat → Nat) (h : Hp) (N : Nat) (a0 : Int32) {res : Int32 × Hp} (hE : K_M_rules N a0 h = some res) : ConI l y_M_rules prog_13_method_76_code 6 (Option.some Jvm.ClassFile.FieldType.int) rm_M_rules K WM ad h [.ref (ad 100), .int a0] res.1 res.2 := fun sz =>
  con_start [(0, .ref (ad 100)), (1, .int a0)] (by decide +kernel) rfl (Nat.le_of_ble_eq_true rfl) (fun p e s m args below meth c C0 hr hnm hsz => w_M_rules C0 hr N a0 h hE)
abbrev y_M_line : MethodName := ⟨"CanoeSidesModel", "line", "(II)I"⟩
abbrev rm_M_line : Room := { frames := 2, cells := 0, slots := 0, locals := 47 }
theorem cd_M_line : cwd y_M_line 2 := by decide +kernel
theorem d_M_line_0 : decode prog_13_method_77_code 0 = .ok (.aload_n 0, 1) := by decide +kernel
theorem d_M_line_1 : decode prog_13_method_77_code 1 = .ok (.iload_n 1, 1) := by decide +kernel
theorem d_M_line_2 : decode prog_13_method_77_code 2 = .ok (.iload_n 2, 1) := by decide +kernel
theorem d_M_line_3 : decode prog_13_method_77_code 3 = .ok (.invokevirtual 157, 3) := by decide +kernel
theorem d_M_line_6 : decode prog_13_method_77_code 6 = .ok (.ifCond .ne 6, 3) := by decide +kernel
theorem d_M_line_9 : decode prog_13_method_77_code 9 = .ok (.ldc 160, 2) := by decide +kernel
theorem d_M_line_11 : decode prog_13_method_77_code 11 = .ok (.ireturn, 1) := by decide +kernel
theorem d_M_line_12 : decode prog_13_method_77_code 12 = .ok (.aload_n 0, 1) := by decide +kernel
theorem d_M_line_13 : decode prog_13_method_77_code 13 = .ok (.getfield 134, 3) := by decide +kernel
theorem d_M_line_16 : decode prog_13_method_77_code 16 = .ok (.iconst 4, 1) := by decide +kernel
theorem d_M_line_17 : decode prog_13_method_77_code 17 = .ok (.if_icmp .ne 6, 3) := by decide +kernel
theorem d_M_line_20 : decode prog_13_method_77_code 20 = .ok (.ldc 75, 2) := by decide +kernel
theorem d_M_line_22 : decode prog_13_method_77_code 22 = .ok (.ireturn, 1) := by decide +kernel
theorem d_M_line_23 : decode prog_13_method_77_code 23 = .ok (.aload_n 0, 1) := by decide +kernel
theorem d_M_line_24 : decode prog_13_method_77_code 24 = .ok (.getfield 49, 3) := by decide +kernel
theorem d_M_line_27 : decode prog_13_method_77_code 27 = .ok (.aload_n 0, 1) := by decide +kernel
theorem d_M_line_28 : decode prog_13_method_77_code 28 = .ok (.getfield 134, 3) := by decide +kernel
theorem d_M_line_31 : decode prog_13_method_77_code 31 = .ok (.iload_n 2, 1) := by decide +kernel
theorem d_M_line_32 : decode prog_13_method_77_code 32 = .ok (.aload_n 0, 1) := by decide +kernel
theorem d_M_line_33 : decode prog_13_method_77_code 33 = .ok (.getfield 20, 3) := by decide +kernel
theorem d_M_line_36 : decode prog_13_method_77_code 36 = .ok (.iconst 0, 1) := by decide +kernel
theorem d_M_line_37 : decode prog_13_method_77_code 37 = .ok (.iaload, 1) := by decide +kernel
theorem d_M_line_38 : decode prog_13_method_77_code 38 = .ok (.imul, 1) := by decide +kernel
theorem d_M_line_39 : decode prog_13_method_77_code 39 = .ok (.iload_n 1, 1) := by decide +kernel
theorem d_M_line_40 : decode prog_13_method_77_code 40 = .ok (.iadd, 1) := by decide +kernel
theorem d_M_line_41 : decode prog_13_method_77_code 41 = .ok (.iastore, 1) := by decide +kernel
theorem d_M_line_42 : decode prog_13_method_77_code 42 = .ok (.aload_n 0, 1) := by decide +kernel
theorem d_M_line_43 : decode prog_13_method_77_code 43 = .ok (.dup, 1) := by decide +kernel
theorem d_M_line_44 : decode prog_13_method_77_code 44 = .ok (.getfield 134, 3) := by decide +kernel
theorem d_M_line_47 : decode prog_13_method_77_code 47 = .ok (.iconst 1, 1) := by decide +kernel
theorem d_M_line_48 : decode prog_13_method_77_code 48 = .ok (.iadd, 1) := by decide +kernel
theorem d_M_line_49 : decode prog_13_method_77_code 49 = .ok (.putfield 134, 3) := by decide +kernel
theorem d_M_line_52 : decode prog_13_method_77_code 52 = .ok (.aload_n 0, 1) := by decide +kernel
theorem d_M_line_53 : decode prog_13_method_77_code 53 = .ok (.getfield 134, 3) := by decide +kernel
theorem d_M_line_56 : decode prog_13_method_77_code 56 = .ok (.ireturn, 1) := by decide +kernel
theorem w_M_line {p : Program} {l : Launch} {e : Env} {s : State} {m : MethodId} {args : Array Value} {below : List Frame} {meth : Method} {c : Code} {K : KT} {A : Nat → Prop} (C0 : Cx p s m args meth c prog_13_method_77_code "CanoeSidesModel" 3 K A) (hr : meth.sig.returnType = (Option.some Jvm.ClassFile.FieldType.int)) {ad : Nat → Nat} (a0 : Int32) (b0 : Int32) (h : Hp) {res : Int32 × Hp} (hE : K_M_line a0 b0 h = some res) : G p l e rm_M_line s m args below meth c K A WM 3 0 0 (QI s args below K A WM 0 0 ad res.1 res.2) 0 [(0, .ref (ad 100)), (1, .int a0), (2, .int b0)] [] ad h := by
  unfold K_M_line at hE
  refine g_aload_n C0 0 d_M_line_0 rfl rfl ?_
  refine g_iload_n C0 1 d_M_line_1 rfl rfl ?_
  refine g_iload_n C0 2 d_M_line_2 rfl rfl ?_
  obtain ⟨v3, z3, hE⟩ := bd_some hE
  refine g_calliP C0 nd_M [100, 101, 102, 103, 104, 105, 106, 107, 108, 109, 110, 111, 112, 113, 114, 115] rfl (sbW_self WM) (runV C0 (m_M_isSquare l K ad h a0 b0 z3) 2 rfl ⟨t_1279, t_1281, t_53, t_97, t_1282⟩ cd_M_isSquare (by decide) 0 rfl rfl (sbW_self WM) nd_M rfl rfl (Nat.le_of_ble_eq_true rfl) d_M_line_3) ?_
  have hB := ite_some hE
  refine g_if_ne C0 (tgt := 12) d_M_line_6 (by decide) (fun c_ => ?_) (fun c_ => ?_)
  · replace hE := hB.2 c_
    refine g_aload_n C0 0 d_M_line_12 rfl rfl ?_
    refine g_geti C0 CK_11 26 (by decide) t_1116 0 rfl rfl d_M_line_13 ?_
    refine g_iconst C0 (v := 4) d_M_line_16 (by decide) ?_
    have hB := ite_some hE
    refine g_icmp_ne C0 (tgt := 23) d_M_line_17 (by decide) (fun c_ => ?_) (fun c_ => ?_)
    · replace hE := hB.2 c_
      refine g_aload_n C0 0 d_M_line_23 rfl rfl ?_
      refine g_getr C0 CK_11 25 (by decide) t_1115 0 rfl rfl d_M_line_24 ?_
      refine g_aload_n C0 0 d_M_line_27 rfl rfl ?_
      refine g_geti C0 CK_11 26 (by decide) t_1116 0 rfl rfl d_M_line_28 ?_
      refine g_iload_n C0 2 d_M_line_31 rfl rfl ?_
      refine g_aload_n C0 0 d_M_line_32 rfl rfl ?_
      refine g_getr C0 CK_11 3 (by decide) t_1093 0 rfl rfl d_M_line_33 ?_
      refine g_iconst C0 (v := 0) d_M_line_36 (by decide) ?_
      obtain ⟨q37, v37, e37, hE⟩ := gA_some hE
      refine g_iald C0 4 rfl q37 d_M_line_37 ?_
      refine g_top e37 ?_
      refine g_imul C0 d_M_line_38 ?_
      refine g_iload_n C0 1 d_M_line_39 rfl rfl ?_
      refine g_iadd C0 d_M_line_40 ?_
      obtain ⟨q41, hE⟩ := sA_some hE
      obtain ⟨h41, e41, hE⟩ := nm_some hE
      refine g_iast C0 12 rfl nd_M q41 d_M_line_41 ?_
      refine g_heap e41 ?_
      refine g_aload_n C0 0 d_M_line_42 rfl rfl ?_
      refine g_dup C0 d_M_line_43 rfl ?_
      refine g_geti C0 CK_11 26 (by decide) t_1116 0 rfl rfl d_M_line_44 ?_
      refine g_iconst C0 (v := 1) d_M_line_47 (by decide) ?_
      refine g_iadd C0 d_M_line_48 ?_
      obtain ⟨h49, e49, hE⟩ := nm_some hE
      refine g_puti C0 CK_11 CT_11 26 (by decide) t_1116 rfl (by decide +kernel) nd_M 0 rfl rfl d_M_line_49 ?_
      refine g_heap e49 ?_
      refine g_aload_n C0 0 d_M_line_52 rfl rfl ?_
      refine g_geti C0 CK_11 26 (by decide) t_1116 0 rfl rfl d_M_line_53 ?_
      obtain rfl := Option.some.inj hE
      exact g_iret C0 hr d_M_line_56
    · replace hE := hB.1 c_
      refine g_ldc C0 (v := (-1000000004)) t_1200 d_M_line_20 ?_
      obtain rfl := Option.some.inj hE
      exact g_iret C0 hr d_M_line_22
  · replace hE := hB.1 c_
    refine g_ldc C0 (v := (-1000000001)) t_1283 d_M_line_9 ?_
    obtain rfl := Option.some.inj hE
    exact g_iret C0 hr d_M_line_11
theorem m_M_line (l : Launch) (K : KT) (ad : Nat → Nat) (h : Hp) (a0 : Int32) (b0 : Int32) {res : Int32 × Hp} (hE : K_M_line a0 b0 h = some res) : ConI l y_M_line prog_13_method_77_code 3 (Option.some Jvm.ClassFile.FieldType.int) rm_M_line K WM ad h [.ref (ad 100), .int a0, .int b0] res.1 res.2 := fun sz =>
  con_start [(0, .ref (ad 100)), (1, .int a0), (2, .int b0)] (by decide +kernel) rfl (Nat.le_of_ble_eq_true rfl) (fun p e s m args below meth c C0 hr hnm hsz => w_M_line C0 hr a0 b0 h hE)
abbrev y_M_fitsRow : MethodName := ⟨"CanoeSidesModel", "fitsRow", "(I)Z"⟩
abbrev rm_M_fitsRow : Room := { frames := 6, cells := 0, slots := 0, locals := 147 }
theorem cd_M_fitsRow : cwd y_M_fitsRow 1 := by decide +kernel
theorem d_M_fitsRow_0 : decode prog_13_method_78_code 0 = .ok (.aload_n 0, 1) := by decide +kernel
theorem d_M_fitsRow_1 : decode prog_13_method_78_code 1 = .ok (.invokevirtual 265, 3) := by decide +kernel
theorem d_M_fitsRow_4 : decode prog_13_method_78_code 4 = .ok (.istore_n 2, 1) := by decide +kernel
theorem d_M_fitsRow_5 : decode prog_13_method_78_code 5 = .ok (.iconst 1, 1) := by decide +kernel
theorem d_M_fitsRow_6 : decode prog_13_method_78_code 6 = .ok (.istore_n 3, 1) := by decide +kernel
theorem d_M_fitsRow_7 : decode prog_13_method_78_code 7 = .ok (.iconst 0, 1) := by decide +kernel
theorem d_M_fitsRow_8 : decode prog_13_method_78_code 8 = .ok (.istore 4, 2) := by decide +kernel
theorem d_M_fitsRow_10 : decode prog_13_method_78_code 10 = .ok (.iload 4, 2) := by decide +kernel
theorem d_M_fitsRow_12 : decode prog_13_method_78_code 12 = .ok (.aload_n 0, 1) := by decide +kernel
theorem d_M_fitsRow_13 : decode prog_13_method_78_code 13 = .ok (.getfield 134, 3) := by decide +kernel
theorem d_M_fitsRow_16 : decode prog_13_method_78_code 16 = .ok (.if_icmp .ge 70, 3) := by decide +kernel
theorem d_M_fitsRow_19 : decode prog_13_method_78_code 19 = .ok (.iload_n 3, 1) := by decide +kernel
theorem d_M_fitsRow_20 : decode prog_13_method_78_code 20 = .ok (.ifCond .eq 66, 3) := by decide +kernel
theorem d_M_fitsRow_23 : decode prog_13_method_78_code 23 = .ok (.iload_n 1, 1) := by decide +kernel
theorem d_M_fitsRow_24 : decode prog_13_method_78_code 24 = .ok (.iconst 4, 1) := by decide +kernel
theorem d_M_fitsRow_25 : decode prog_13_method_78_code 25 = .ok (.aload_n 0, 1) := by decide +kernel
theorem d_M_fitsRow_26 : decode prog_13_method_78_code 26 = .ok (.getfield 134, 3) := by decide +kernel
theorem d_M_fitsRow_29 : decode prog_13_method_78_code 29 = .ok (.iconst 1, 1) := by decide +kernel
theorem d_M_fitsRow_30 : decode prog_13_method_78_code 30 = .ok (.isub, 1) := by decide +kernel
theorem d_M_fitsRow_31 : decode prog_13_method_78_code 31 = .ok (.iload 4, 2) := by decide +kernel
theorem d_M_fitsRow_33 : decode prog_13_method_78_code 33 = .ok (.isub, 1) := by decide +kernel
theorem d_M_fitsRow_34 : decode prog_13_method_78_code 34 = .ok (.imul, 1) := by decide +kernel
theorem d_M_fitsRow_35 : decode prog_13_method_78_code 35 = .ok (.ishr, 1) := by decide +kernel
theorem d_M_fitsRow_36 : decode prog_13_method_78_code 36 = .ok (.bipush 15, 2) := by decide +kernel
theorem d_M_fitsRow_38 : decode prog_13_method_78_code 38 = .ok (.iand, 1) := by decide +kernel
theorem d_M_fitsRow_39 : decode prog_13_method_78_code 39 = .ok (.istore 5, 2) := by decide +kernel
theorem d_M_fitsRow_41 : decode prog_13_method_78_code 41 = .ok (.aload_n 0, 1) := by decide +kernel
theorem d_M_fitsRow_42 : decode prog_13_method_78_code 42 = .ok (.iload_n 2, 1) := by decide +kernel
theorem d_M_fitsRow_43 : decode prog_13_method_78_code 43 = .ok (.iload 5, 2) := by decide +kernel
theorem d_M_fitsRow_45 : decode prog_13_method_78_code 45 = .ok (.iconst 4, 1) := by decide +kernel
theorem d_M_fitsRow_46 : decode prog_13_method_78_code 46 = .ok (.idiv, 1) := by decide +kernel
theorem d_M_fitsRow_47 : decode prog_13_method_78_code 47 = .ok (.iload 5, 2) := by decide +kernel
theorem d_M_fitsRow_49 : decode prog_13_method_78_code 49 = .ok (.iconst 4, 1) := by decide +kernel
theorem d_M_fitsRow_50 : decode prog_13_method_78_code 50 = .ok (.irem, 1) := by decide +kernel
theorem d_M_fitsRow_51 : decode prog_13_method_78_code 51 = .ok (.invokevirtual 247, 3) := by decide +kernel
theorem d_M_fitsRow_54 : decode prog_13_method_78_code 54 = .ok (.istore_n 2, 1) := by decide +kernel
theorem d_M_fitsRow_55 : decode prog_13_method_78_code 55 = .ok (.iload_n 2, 1) := by decide +kernel
theorem d_M_fitsRow_56 : decode prog_13_method_78_code 56 = .ok (.aload_n 0, 1) := by decide +kernel
theorem d_M_fitsRow_57 : decode prog_13_method_78_code 57 = .ok (.invokevirtual 234, 3) := by decide +kernel
theorem d_M_fitsRow_60 : decode prog_13_method_78_code 60 = .ok (.idiv, 1) := by decide +kernel
theorem d_M_fitsRow_61 : decode prog_13_method_78_code 61 = .ok (.bipush 8, 2) := by decide +kernel
theorem d_M_fitsRow_63 : decode prog_13_method_78_code 63 = .ok (.idiv, 1) := by decide +kernel
theorem d_M_fitsRow_64 : decode prog_13_method_78_code 64 = .ok (.aload_n 0, 1) := by decide +kernel
theorem d_M_fitsRow_65 : decode prog_13_method_78_code 65 = .ok (.getfield 49, 3) := by decide +kernel
theorem d_M_fitsRow_68 : decode prog_13_method_78_code 68 = .ok (.iload 4, 2) := by decide +kernel
theorem d_M_fitsRow_70 : decode prog_13_method_78_code 70 = .ok (.iaload, 1) := by decide +kernel
theorem d_M_fitsRow_71 : decode prog_13_method_78_code 71 = .ok (.if_icmp .ne 7, 3) := by decide +kernel
theorem d_M_fitsRow_74 : decode prog_13_method_78_code 74 = .ok (.iconst 1, 1) := by decide +kernel
theorem d_M_fitsRow_75 : decode prog_13_method_78_code 75 = .ok (.goto 4, 3) := by decide +kernel
theorem d_M_fitsRow_78 : decode prog_13_method_78_code 78 = .ok (.iconst 0, 1) := by decide +kernel
theorem d_M_fitsRow_79 : decode prog_13_method_78_code 79 = .ok (.istore_n 3, 1) := by decide +kernel
theorem d_M_fitsRow_80 : decode prog_13_method_78_code 80 = .ok (.iinc 4 1, 3) := by decide +kernel
theorem d_M_fitsRow_83 : decode prog_13_method_78_code 83 = .ok (.goto (-73), 3) := by decide +kernel
theorem d_M_fitsRow_86 : decode prog_13_method_78_code 86 = .ok (.iload_n 3, 1) := by decide +kernel
theorem d_M_fitsRow_87 : decode prog_13_method_78_code 87 = .ok (.ireturn, 1) := by decide +kernel
theorem w_M_fitsRow_J79 {p : Program} {l : Launch} {e : Env} {s : State} {m : MethodId} {args : Array Value} {below : List Frame} {meth : Method} {c : Code} {K : KT} {A : Nat → Prop} {Q : State → Prop} (C0 : Cx p s m args meth c prog_13_method_78_code "CanoeSidesModel" 6 K A) (hr : meth.sig.returnType = (Option.some Jvm.ClassFile.FieldType.boolean)) {ad : Nat → Nat} (N : Nat) (x1 : Int32) (x2 : Int32) (x4 : Int32) (y0 : Int32) (h : Hp) {x_ : (Int32 × Int32 × Int32 × Hp) ⊕ (Int32 × Hp)} (hE : K_M_fitsRow_J79 N x1 x2 x4 y0 h = some x_) (hk1 : ∀ z_, x_ = .inl z_ → G p l e rm_M_fitsRow s m args below meth c K A WM 6 0 0 Q 10 [(0, .ref (ad 100)), (1, .int x1), (2, .int z_.1), (3, .int z_.2.1), (4, .int z_.2.2.1)] [] ad z_.2.2.2) (hk3 : ∀ z_, x_ = .inr z_ → G p l e rm_M_fitsRow s m args below meth c K A WM 6 0 0 Q 86 [(3, .int z_.1)] [] ad z_.2) : G p l e rm_M_fitsRow s m args below meth c K A WM 6 0 0 Q 79 [(0, .ref (ad 100)), (1, .int x1), (2, .int x2), (4, .int x4)] [.int y0] ad h := by
  unfold K_M_fitsRow_J79 at hE
  refine g_istore_n C0 [(3, .int y0), (0, .ref (ad 100)), (1, .int x1), (2, .int x2), (4, .int x4)] d_M_fitsRow_79 rfl (by decide) rfl ?_
  obtain ⟨v80, e80, hE⟩ := nm_some hE
  refine g_iinc C0 4 [(4, .int v80), (3, .int y0), (0, .ref (ad 100)), (1, .int x1), (2, .int x2)] d_M_fitsRow_80 rfl (by rw [e80]; rfl) (by decide) rfl ?_
  refine g_goto C0 (tgt := 10) d_M_fitsRow_83 (by decide) ?_
  refine g_sub [2, 3, 4, 1, 0] (L' := [(0, .ref (ad 100)), (1, .int x1), (2, .int x2), (3, .int y0), (4, .int v80)]) rfl ?_
  exact hk1 _ (Option.some.inj hE).symm
theorem w_M_fitsRow_L10 {p : Program} {l : Launch} {e : Env} {s : State} {m : MethodId} {args : Array Value} {below : List Frame} {meth : Method} {c : Code} {K : KT} {A : Nat → Prop} {Q : State → Prop} (C0 : Cx p s m args meth c prog_13_method_78_code "CanoeSidesModel" 6 K A) (hr : meth.sig.returnType = (Option.some Jvm.ClassFile.FieldType.boolean)) {ad : Nat → Nat} (N : Nat) (x1 : Int32) (x2 : Int32) (x3 : Int32) (x4 : Int32) (h : Hp) {x_ : (Int32 × Int32 × Int32 × Hp) ⊕ (Int32 × Hp)} (hE : K_M_fitsRow_L10 N x1 x2 x3 x4 h = some x_) (hk1 : ∀ z_, x_ = .inl z_ → G p l e rm_M_fitsRow s m args below meth c K A WM 6 0 0 Q 10 [(0, .ref (ad 100)), (1, .int x1), (2, .int z_.1), (3, .int z_.2.1), (4, .int z_.2.2.1)] [] ad z_.2.2.2) (hk3 : ∀ z_, x_ = .inr z_ → G p l e rm_M_fitsRow s m args below meth c K A WM 6 0 0 Q 86 [(3, .int z_.1)] [] ad z_.2) : G p l e rm_M_fitsRow s m args below meth c K A WM 6 0 0 Q 10 [(0, .ref (ad 100)), (1, .int x1), (2, .int x2), (3, .int x3), (4, .int x4)] [] ad h := by
  unfold K_M_fitsRow_L10 at hE
  refine g_iload C0 4 d_M_fitsRow_10 rfl ?_
  refine g_aload_n C0 0 d_M_fitsRow_12 rfl rfl ?_
  refine g_geti C0 CK_11 26 (by decide) t_1116 0 rfl rfl d_M_fitsRow_13 ?_
  have hB := ite_some hE
  refine g_icmp_ge C0 (tgt := 86) d_M_fitsRow_16 (by decide) (fun c_ => ?_) (fun c_ => ?_)
  · replace hE := hB.1 c_
    refine g_sub [3] (L' := [(3, .int x3)]) rfl ?_
    exact hk3 _ (Option.some.inj hE).symm
  · replace hE := hB.2 c_
    refine g_iload_n C0 3 d_M_fitsRow_19 rfl rfl ?_
    have hB := ite_some hE
    refine g_if_eq C0 (tgt := 86) d_M_fitsRow_20 (by decide) (fun c_ => ?_) (fun c_ => ?_)
    · replace hE := hB.1 c_
      refine g_sub [3] (L' := [(3, .int x3)]) rfl ?_
      exact hk3 _ (Option.some.inj hE).symm
    · replace hE := hB.2 c_
      refine g_iload_n C0 1 d_M_fitsRow_23 rfl rfl ?_
      refine g_iconst C0 (v := 4) d_M_fitsRow_24 (by decide) ?_
      refine g_aload_n C0 0 d_M_fitsRow_25 rfl rfl ?_
      refine g_geti C0 CK_11 26 (by decide) t_1116 0 rfl rfl d_M_fitsRow_26 ?_
      refine g_iconst C0 (v := 1) d_M_fitsRow_29 (by decide) ?_
      refine g_isub C0 d_M_fitsRow_30 ?_
      refine g_iload C0 4 d_M_fitsRow_31 rfl ?_
      refine g_isub C0 d_M_fitsRow_33 ?_
      refine g_imul C0 d_M_fitsRow_34 ?_
      refine g_ishr C0 d_M_fitsRow_35 ?_
      refine g_bipush C0 (v := 15) d_M_fitsRow_36 (by decide) ?_
      refine g_iand C0 d_M_fitsRow_38 ?_
      obtain ⟨v39, e39, hE⟩ := nm_some hE
      refine g_top e39 ?_
      refine g_istore C0 [(5, .int v39), (0, .ref (ad 100)), (1, .int x1), (2, .int x2), (3, .int x3), (4, .int x4)] d_M_fitsRow_39 (by decide) rfl ?_
      refine g_aload_n C0 1 d_M_fitsRow_41 rfl rfl ?_
      refine g_iload_n C0 3 d_M_fitsRow_42 rfl rfl ?_
      refine g_iload C0 0 d_M_fitsRow_43 rfl ?_
      refine g_iconst C0 (v := 4) d_M_fitsRow_45 (by decide) ?_
      refine g_idiv C0 d_M_fitsRow_46 (by decide) ?_
      refine g_iload C0 0 d_M_fitsRow_47 rfl ?_
      refine g_iconst C0 (v := 4) d_M_fitsRow_49 (by decide) ?_
      refine g_irem C0 d_M_fitsRow_50 (by decide) ?_
      obtain ⟨v51, h51, z51, hE⟩ := bd2_some hE
      refine g_calli C0 nd_M [100, 101, 102, 103, 104, 105, 106, 107, 108, 109, 110, 111, 112, 113, 114, 115] rfl (sbW_self WM) (runV C0 (m_M_after l K ad h N x2 (v39 / 4) (rm32 v39 4) z51) 3 rfl ⟨t_1398, t_1400, t_69, t_97, t_1401⟩ cd_M_after (by decide) 0 rfl rfl (sbW_self WM) nd_M rfl rfl (Nat.le_of_ble_eq_true rfl) d_M_fitsRow_51) ?_
      refine g_mx [100, 101, 102, 103, 104, 105, 106, 107, 108, 109, 110, 111, 112, 113, 114, 115] rfl ?_
      refine g_istore_n C0 [(2, .int v51), (5, .int v39), (0, .ref (ad 100)), (1, .int x1), (3, .int x3), (4, .int x4)] d_M_fitsRow_54 rfl (by decide) rfl ?_
      refine g_iload_n C0 0 d_M_fitsRow_55 rfl rfl ?_
      refine g_aload_n C0 2 d_M_fitsRow_56 rfl rfl ?_
      obtain ⟨v57, z57, hE⟩ := bd_some hE
      refine g_calliP C0 nd_M [100, 101, 102, 103, 104, 105, 106, 107, 108, 109, 110, 111, 112, 113, 114, 115] rfl (sbW_self WM) (runV C0 (m_M_times l K ad h51 z57) 0 rfl ⟨t_1385, t_1387, t_66, t_97, t_1388⟩ cd_M_times (by decide) 0 rfl rfl (sbW_self WM) nd_M rfl rfl (Nat.le_of_ble_eq_true rfl) d_M_fitsRow_57) ?_
      obtain ⟨q60, hE⟩ := dz_some hE
      refine g_idiv C0 d_M_fitsRow_60 q60 ?_
      refine g_bipush C0 (v := 8) d_M_fitsRow_61 (by decide) ?_
      refine g_idiv C0 d_M_fitsRow_63 (by decide) ?_
      refine g_aload_n C0 2 d_M_fitsRow_64 rfl rfl ?_
      refine g_getr C0 CK_11 25 (by decide) t_1115 0 rfl rfl d_M_fitsRow_65 ?_
      refine g_iload C0 5 d_M_fitsRow_68 rfl ?_
      obtain ⟨q70, v70, e70, hE⟩ := gA_some hE
      refine g_iald C0 12 rfl q70 d_M_fitsRow_70 ?_
      refine g_top e70 ?_
      have hB := ite_some hE
      refine g_icmp_ne C0 (tgt := 78) d_M_fitsRow_71 (by decide) (fun c_ => ?_) (fun c_ => ?_)
      · replace hE := hB.2 c_
        refine g_iconst C0 (v := 0) d_M_fitsRow_78 (by decide) ?_
        refine g_sub [2, 3, 0, 5] (L' := [(0, .ref (ad 100)), (1, .int x1), (2, .int v51), (4, .int x4)]) rfl ?_
        exact w_M_fitsRow_J79 C0 hr N x1 v51 x4 0 h51 hE hk1 hk3
      · replace hE := hB.1 c_
        refine g_iconst C0 (v := 1) d_M_fitsRow_74 (by decide) ?_
        refine g_goto C0 (tgt := 79) d_M_fitsRow_75 (by decide) ?_
        refine g_sub [2, 3, 0, 5] (L' := [(0, .ref (ad 100)), (1, .int x1), (2, .int v51), (4, .int x4)]) rfl ?_
        exact w_M_fitsRow_J79 C0 hr N x1 v51 x4 1 h51 hE hk1 hk3
theorem w_M_fitsRow {p : Program} {l : Launch} {e : Env} {s : State} {m : MethodId} {args : Array Value} {below : List Frame} {meth : Method} {c : Code} {K : KT} {A : Nat → Prop} (C0 : Cx p s m args meth c prog_13_method_78_code "CanoeSidesModel" 6 K A) (hr : meth.sig.returnType = (Option.some Jvm.ClassFile.FieldType.boolean)) {ad : Nat → Nat} (N : Nat) (a0 : Int32) (h : Hp) {res : Int32 × Hp} (hE : K_M_fitsRow N a0 h = some res) : G p l e rm_M_fitsRow s m args below meth c K A WM 6 0 0 (QI s args below K A WM 0 0 ad res.1 res.2) 0 [(0, .ref (ad 100)), (1, .int a0)] [] ad h := by
  unfold K_M_fitsRow at hE
  refine g_aload_n C0 0 d_M_fitsRow_0 rfl rfl ?_
  obtain ⟨v1, z1, hE⟩ := bd_some hE
  refine g_calliP C0 nd_M [100, 101, 102, 103, 104, 105, 106, 107, 108, 109, 110, 111, 112, 113, 114, 115] rfl (sbW_self WM) (runV C0 (m_M_stateNow l K ad h z1) 0 rfl ⟨t_1406, t_1408, t_71, t_97, t_1409⟩ cd_M_stateNow (by decide) 0 rfl rfl (sbW_self WM) nd_M rfl rfl (Nat.le_of_ble_eq_true rfl) d_M_fitsRow_1) ?_
  refine g_istore_n C0 [(2, .int v1), (0, .ref (ad 100)), (1, .int a0)] d_M_fitsRow_4 rfl (by decide) rfl ?_
  refine g_iconst C0 (v := 1) d_M_fitsRow_5 (by decide) ?_
  refine g_istore_n C0 [(3, .int 1), (2, .int v1), (0, .ref (ad 100)), (1, .int a0)] d_M_fitsRow_6 rfl (by decide) rfl ?_
  refine g_iconst C0 (v := 0) d_M_fitsRow_7 (by decide) ?_
  refine g_istore C0 [(4, .int 0), (3, .int 1), (2, .int v1), (0, .ref (ad 100)), (1, .int a0)] d_M_fitsRow_8 (by decide) rfl ?_
  refine g_sub [3, 4, 2, 1, 0] (L' := [(0, .ref (ad 100)), (1, .int a0), (2, .int v1), (3, .int 1), (4, .int 0)]) rfl ?_
  obtain ⟨t10, z10, hE⟩ := bd_some hE
  refine loopG (fun z_ : Int32 × Int32 × Int32 × Hp => K_M_fitsRow_L10 N a0 z_.1 z_.2.1 z_.2.2.1 z_.2.2.2) (fun z_ : Int32 × Int32 × Int32 × Hp => G p l e rm_M_fitsRow s m args below meth c K A WM 6 0 0 _ 10 [(0, .ref (ad 100)), (1, .int a0), (2, .int z_.1), (3, .int z_.2.1), (4, .int z_.2.2.1)] [] ad z_.2.2.2) (fun z_ : Int32 × Hp => G p l e rm_M_fitsRow s m args below meth c K A WM 6 0 0 _ 86 [(3, .int z_.1)] [] ad z_.2) (fun z_ x_ hz k1 k2 => w_M_fitsRow_L10 C0 hr N a0 z_.1 z_.2.1 z_.2.2.1 z_.2.2.2 hz k1 k2) _ _ _ z10 ?_
  try dsimp only
  refine g_iload_n C0 0 d_M_fitsRow_86 rfl rfl ?_
  obtain ⟨q87, hE⟩ := bz_some hE
  obtain rfl := Option.some.inj hE
  exact g_zret C0 hr q87 d_M_fitsRow_87
theorem m_M_fitsRow (l : Launch) (K : KT) (ad : Nat → Nat) (h : Hp) (N : Nat) (a0 : Int32) {res : Int32 × Hp} (hE : K_M_fitsRow N a0 h = some res) : ConI l y_M_fitsRow prog_13_method_78_code 6 (Option.some Jvm.ClassFile.FieldType.boolean) rm_M_fitsRow K WM ad h [.ref (ad 100), .int a0] res.1 res.2 := fun sz =>
  con_start [(0, .ref (ad 100)), (1, .int a0)] (by decide +kernel) rfl (Nat.le_of_ble_eq_true rfl) (fun p e s m args below meth c C0 hr hnm hsz => w_M_fitsRow C0 hr N a0 h hE)
abbrev y_M_findFits : MethodName := ⟨"CanoeSidesModel", "findFits", "()V"⟩
abbrev rm_M_findFits : Room := { frames := 7, cells := 0, slots := 0, locals := 172 }
theorem cd_M_findFits : cwd y_M_findFits 0 := by decide +kernel
theorem d_M_findFits_0 : decode prog_13_method_79_code 0 = .ok (.aload_n 0, 1) := by decide +kernel
theorem d_M_findFits_1 : decode prog_13_method_79_code 1 = .ok (.iconst 0, 1) := by decide +kernel
theorem d_M_findFits_2 : decode prog_13_method_79_code 2 = .ok (.putfield 166, 3) := by decide +kernel
theorem d_M_findFits_5 : decode prog_13_method_79_code 5 = .ok (.aload_n 0, 1) := by decide +kernel
theorem d_M_findFits_6 : decode prog_13_method_79_code 6 = .ok (.iconst 0, 1) := by decide +kernel
theorem d_M_findFits_7 : decode prog_13_method_79_code 7 = .ok (.putfield 311, 3) := by decide +kernel
theorem d_M_findFits_10 : decode prog_13_method_79_code 10 = .ok (.aload_n 0, 1) := by decide +kernel
theorem d_M_findFits_11 : decode prog_13_method_79_code 11 = .ok (.getfield 52, 3) := by decide +kernel
theorem d_M_findFits_14 : decode prog_13_method_79_code 14 = .ok (.iconst 0, 1) := by decide +kernel
theorem d_M_findFits_15 : decode prog_13_method_79_code 15 = .ok (.iconst 1, 1) := by decide +kernel
theorem d_M_findFits_16 : decode prog_13_method_79_code 16 = .ok (.aload_n 0, 1) := by decide +kernel
theorem d_M_findFits_17 : decode prog_13_method_79_code 17 = .ok (.getfield 134, 3) := by decide +kernel
theorem d_M_findFits_20 : decode prog_13_method_79_code 20 = .ok (.ishl, 1) := by decide +kernel
theorem d_M_findFits_21 : decode prog_13_method_79_code 21 = .ok (.iconst 1, 1) := by decide +kernel
theorem d_M_findFits_22 : decode prog_13_method_79_code 22 = .ok (.isub, 1) := by decide +kernel
theorem d_M_findFits_23 : decode prog_13_method_79_code 23 = .ok (.iastore, 1) := by decide +kernel
theorem d_M_findFits_24 : decode prog_13_method_79_code 24 = .ok (.aload_n 0, 1) := by decide +kernel
theorem d_M_findFits_25 : decode prog_13_method_79_code 25 = .ok (.getfield 52, 3) := by decide +kernel
theorem d_M_findFits_28 : decode prog_13_method_79_code 28 = .ok (.iconst 1, 1) := by decide +kernel
theorem d_M_findFits_29 : decode prog_13_method_79_code 29 = .ok (.aload_n 0, 1) := by decide +kernel
theorem d_M_findFits_30 : decode prog_13_method_79_code 30 = .ok (.getfield 52, 3) := by decide +kernel
theorem d_M_findFits_33 : decode prog_13_method_79_code 33 = .ok (.iconst 0, 1) := by decide +kernel
theorem d_M_findFits_34 : decode prog_13_method_79_code 34 = .ok (.iaload, 1) := by decide +kernel
theorem d_M_findFits_35 : decode prog_13_method_79_code 35 = .ok (.iastore, 1) := by decide +kernel
theorem d_M_findFits_36 : decode prog_13_method_79_code 36 = .ok (.iconst 0, 1) := by decide +kernel
theorem d_M_findFits_37 : decode prog_13_method_79_code 37 = .ok (.istore_n 1, 1) := by decide +kernel
theorem d_M_findFits_38 : decode prog_13_method_79_code 38 = .ok (.iload_n 1, 1) := by decide +kernel
theorem d_M_findFits_39 : decode prog_13_method_79_code 39 = .ok (.iconst 1, 1) := by decide +kernel
theorem d_M_findFits_40 : decode prog_13_method_79_code 40 = .ok (.iconst 4, 1) := by decide +kernel
theorem d_M_findFits_41 : decode prog_13_method_79_code 41 = .ok (.aload_n 0, 1) := by decide +kernel
theorem d_M_findFits_42 : decode prog_13_method_79_code 42 = .ok (.getfield 134, 3) := by decide +kernel
theorem d_M_findFits_45 : decode prog_13_method_79_code 45 = .ok (.imul, 1) := by decide +kernel
theorem d_M_findFits_46 : decode prog_13_method_79_code 46 = .ok (.ishl, 1) := by decide +kernel
theorem d_M_findFits_47 : decode prog_13_method_79_code 47 = .ok (.if_icmp .ge 138, 3) := by decide +kernel
theorem d_M_findFits_50 : decode prog_13_method_79_code 50 = .ok (.aload_n 0, 1) := by decide +kernel
theorem d_M_findFits_51 : decode prog_13_method_79_code 51 = .ok (.iload_n 1, 1) := by decide +kernel
theorem d_M_findFits_52 : decode prog_13_method_79_code 52 = .ok (.invokevirtual 314, 3) := by decide +kernel
theorem d_M_findFits_55 : decode prog_13_method_79_code 55 = .ok (.ifCond .eq 124, 3) := by decide +kernel
theorem d_M_findFits_58 : decode prog_13_method_79_code 58 = .ok (.aload_n 0, 1) := by decide +kernel
theorem d_M_findFits_59 : decode prog_13_method_79_code 59 = .ok (.aload_n 0, 1) := by decide +kernel
theorem d_M_findFits_60 : decode prog_13_method_79_code 60 = .ok (.getfield 311, 3) := by decide +kernel
theorem d_M_findFits_63 : decode prog_13_method_79_code 63 = .ok (.ifCond .ne 7, 3) := by decide +kernel
theorem d_M_findFits_66 : decode prog_13_method_79_code 66 = .ok (.iload_n 1, 1) := by decide +kernel
theorem d_M_findFits_67 : decode prog_13_method_79_code 67 = .ok (.goto 7, 3) := by decide +kernel
theorem d_M_findFits_70 : decode prog_13_method_79_code 70 = .ok (.aload_n 0, 1) := by decide +kernel
theorem d_M_findFits_71 : decode prog_13_method_79_code 71 = .ok (.getfield 317, 3) := by decide +kernel
theorem d_M_findFits_74 : decode prog_13_method_79_code 74 = .ok (.putfield 317, 3) := by decide +kernel
theorem d_M_findFits_77 : decode prog_13_method_79_code 77 = .ok (.aload_n 0, 1) := by decide +kernel
theorem d_M_findFits_78 : decode prog_13_method_79_code 78 = .ok (.dup, 1) := by decide +kernel
theorem d_M_findFits_79 : decode prog_13_method_79_code 79 = .ok (.getfield 311, 3) := by decide +kernel
theorem d_M_findFits_82 : decode prog_13_method_79_code 82 = .ok (.iconst 1, 1) := by decide +kernel
theorem d_M_findFits_83 : decode prog_13_method_79_code 83 = .ok (.iadd, 1) := by decide +kernel
theorem d_M_findFits_84 : decode prog_13_method_79_code 84 = .ok (.putfield 311, 3) := by decide +kernel
theorem d_M_findFits_87 : decode prog_13_method_79_code 87 = .ok (.iconst 0, 1) := by decide +kernel
theorem d_M_findFits_88 : decode prog_13_method_79_code 88 = .ok (.istore_n 2, 1) := by decide +kernel
theorem d_M_findFits_89 : decode prog_13_method_79_code 89 = .ok (.iload_n 2, 1) := by decide +kernel
theorem d_M_findFits_90 : decode prog_13_method_79_code 90 = .ok (.aload_n 0, 1) := by decide +kernel
theorem d_M_findFits_91 : decode prog_13_method_79_code 91 = .ok (.getfield 134, 3) := by decide +kernel
theorem d_M_findFits_94 : decode prog_13_method_79_code 94 = .ok (.if_icmp .ge 85, 3) := by decide +kernel
theorem d_M_findFits_97 : decode prog_13_method_79_code 97 = .ok (.iload_n 1, 1) := by decide +kernel
theorem d_M_findFits_98 : decode prog_13_method_79_code 98 = .ok (.iconst 4, 1) := by decide +kernel
theorem d_M_findFits_99 : decode prog_13_method_79_code 99 = .ok (.aload_n 0, 1) := by decide +kernel
theorem d_M_findFits_100 : decode prog_13_method_79_code 100 = .ok (.getfield 134, 3) := by decide +kernel
theorem d_M_findFits_103 : decode prog_13_method_79_code 103 = .ok (.iconst 1, 1) := by decide +kernel
theorem d_M_findFits_104 : decode prog_13_method_79_code 104 = .ok (.isub, 1) := by decide +kernel
theorem d_M_findFits_105 : decode prog_13_method_79_code 105 = .ok (.iload_n 2, 1) := by decide +kernel
theorem d_M_findFits_106 : decode prog_13_method_79_code 106 = .ok (.isub, 1) := by decide +kernel
theorem d_M_findFits_107 : decode prog_13_method_79_code 107 = .ok (.imul, 1) := by decide +kernel
theorem d_M_findFits_108 : decode prog_13_method_79_code 108 = .ok (.ishr, 1) := by decide +kernel
theorem d_M_findFits_109 : decode prog_13_method_79_code 109 = .ok (.bipush 15, 2) := by decide +kernel
theorem d_M_findFits_111 : decode prog_13_method_79_code 111 = .ok (.iand, 1) := by decide +kernel
theorem d_M_findFits_112 : decode prog_13_method_79_code 112 = .ok (.istore_n 3, 1) := by decide +kernel
theorem d_M_findFits_113 : decode prog_13_method_79_code 113 = .ok (.aload_n 0, 1) := by decide +kernel
theorem d_M_findFits_114 : decode prog_13_method_79_code 114 = .ok (.getfield 52, 3) := by decide +kernel
theorem d_M_findFits_117 : decode prog_13_method_79_code 117 = .ok (.iconst 0, 1) := by decide +kernel
theorem d_M_findFits_118 : decode prog_13_method_79_code 118 = .ok (.dup2, 1) := by decide +kernel
theorem d_M_findFits_119 : decode prog_13_method_79_code 119 = .ok (.iaload, 1) := by decide +kernel
theorem d_M_findFits_120 : decode prog_13_method_79_code 120 = .ok (.iload_n 3, 1) := by decide +kernel
theorem d_M_findFits_121 : decode prog_13_method_79_code 121 = .ok (.iconst 4, 1) := by decide +kernel
theorem d_M_findFits_122 : decode prog_13_method_79_code 122 = .ok (.idiv, 1) := by decide +kernel
theorem d_M_findFits_123 : decode prog_13_method_79_code 123 = .ok (.iconst 3, 1) := by decide +kernel
theorem d_M_findFits_124 : decode prog_13_method_79_code 124 = .ok (.if_icmp .ne 12, 3) := by decide +kernel
theorem d_M_findFits_127 : decode prog_13_method_79_code 127 = .ok (.aload_n 0, 1) := by decide +kernel
theorem d_M_findFits_128 : decode prog_13_method_79_code 128 = .ok (.getfield 52, 3) := by decide +kernel
theorem d_M_findFits_131 : decode prog_13_method_79_code 131 = .ok (.iconst 0, 1) := by decide +kernel
theorem d_M_findFits_132 : decode prog_13_method_79_code 132 = .ok (.iaload, 1) := by decide +kernel
theorem d_M_findFits_133 : decode prog_13_method_79_code 133 = .ok (.goto 8, 3) := by decide +kernel
theorem d_M_findFits_136 : decode prog_13_method_79_code 136 = .ok (.iconst 1, 1) := by decide +kernel
theorem d_M_findFits_137 : decode prog_13_method_79_code 137 = .ok (.iload_n 2, 1) := by decide +kernel
theorem d_M_findFits_138 : decode prog_13_method_79_code 138 = .ok (.ishl, 1) := by decide +kernel
theorem d_M_findFits_139 : decode prog_13_method_79_code 139 = .ok (.iconst (-1), 1) := by decide +kernel
theorem d_M_findFits_140 : decode prog_13_method_79_code 140 = .ok (.ixor, 1) := by decide +kernel
theorem d_M_findFits_141 : decode prog_13_method_79_code 141 = .ok (.iand, 1) := by decide +kernel
theorem d_M_findFits_142 : decode prog_13_method_79_code 142 = .ok (.iastore, 1) := by decide +kernel
theorem d_M_findFits_143 : decode prog_13_method_79_code 143 = .ok (.aload_n 0, 1) := by decide +kernel
theorem d_M_findFits_144 : decode prog_13_method_79_code 144 = .ok (.getfield 52, 3) := by decide +kernel
theorem d_M_findFits_147 : decode prog_13_method_79_code 147 = .ok (.iconst 1, 1) := by decide +kernel
theorem d_M_findFits_148 : decode prog_13_method_79_code 148 = .ok (.dup2, 1) := by decide +kernel
theorem d_M_findFits_149 : decode prog_13_method_79_code 149 = .ok (.iaload, 1) := by decide +kernel
theorem d_M_findFits_150 : decode prog_13_method_79_code 150 = .ok (.iload_n 3, 1) := by decide +kernel
theorem d_M_findFits_151 : decode prog_13_method_79_code 151 = .ok (.iconst 4, 1) := by decide +kernel
theorem d_M_findFits_152 : decode prog_13_method_79_code 152 = .ok (.irem, 1) := by decide +kernel
theorem d_M_findFits_153 : decode prog_13_method_79_code 153 = .ok (.iconst 3, 1) := by decide +kernel
theorem d_M_findFits_154 : decode prog_13_method_79_code 154 = .ok (.if_icmp .ne 12, 3) := by decide +kernel
theorem d_M_findFits_157 : decode prog_13_method_79_code 157 = .ok (.aload_n 0, 1) := by decide +kernel
theorem d_M_findFits_158 : decode prog_13_method_79_code 158 = .ok (.getfield 52, 3) := by decide +kernel
theorem d_M_findFits_161 : decode prog_13_method_79_code 161 = .ok (.iconst 1, 1) := by decide +kernel
theorem d_M_findFits_162 : decode prog_13_method_79_code 162 = .ok (.iaload, 1) := by decide +kernel
theorem d_M_findFits_163 : decode prog_13_method_79_code 163 = .ok (.goto 8, 3) := by decide +kernel
theorem d_M_findFits_166 : decode prog_13_method_79_code 166 = .ok (.iconst 1, 1) := by decide +kernel
theorem d_M_findFits_167 : decode prog_13_method_79_code 167 = .ok (.iload_n 2, 1) := by decide +kernel
theorem d_M_findFits_168 : decode prog_13_method_79_code 168 = .ok (.ishl, 1) := by decide +kernel
theorem d_M_findFits_169 : decode prog_13_method_79_code 169 = .ok (.iconst (-1), 1) := by decide +kernel
theorem d_M_findFits_170 : decode prog_13_method_79_code 170 = .ok (.ixor, 1) := by decide +kernel
theorem d_M_findFits_171 : decode prog_13_method_79_code 171 = .ok (.iand, 1) := by decide +kernel
theorem d_M_findFits_172 : decode prog_13_method_79_code 172 = .ok (.iastore, 1) := by decide +kernel
theorem d_M_findFits_173 : decode prog_13_method_79_code 173 = .ok (.iinc 2 1, 3) := by decide +kernel
theorem d_M_findFits_176 : decode prog_13_method_79_code 176 = .ok (.goto (-87), 3) := by decide +kernel
theorem d_M_findFits_179 : decode prog_13_method_79_code 179 = .ok (.iinc 1 1, 3) := by decide +kernel
theorem d_M_findFits_182 : decode prog_13_method_79_code 182 = .ok (.goto (-144), 3) := by decide +kernel
theorem d_M_findFits_185 : decode prog_13_method_79_code 185 = .ok (.return_, 1) := by decide +kernel
theorem w_M_findFits_J171 {p : Program} {l : Launch} {e : Env} {s : State} {m : MethodId} {args : Array Value} {below : List Frame} {meth : Method} {c : Code} {K : KT} {A : Nat → Prop} {Q : State → Prop} (C0 : Cx p s m args meth c prog_13_method_79_code "CanoeSidesModel" 4 K A) (hr : meth.sig.returnType = (Option.none : Option Jvm.ClassFile.FieldType)) {ad : Nat → Nat} (N : Nat) (x1 : Int32) (x2 : Int32) (y1 : Int32) (y2 : Int32) (y3 : Int32) (h : Hp) {x_ : (Int32 × Hp) ⊕ (Hp)} (hE : K_M_findFits_J171 N x1 x2 y1 y2 y3 h = some x_) (hk1 : ∀ z_, x_ = .inl z_ → G p l e rm_M_findFits s m args below meth c K A WM 4 0 0 Q 89 [(0, .ref (ad 100)), (1, .int x1), (2, .int z_.1)] [] ad z_.2) (hk3 : ∀ z_, x_ = .inr z_ → G p l e rm_M_findFits s m args below meth c K A WM 4 0 0 Q 179 [(0, .ref (ad 100)), (1, .int x1)] [] ad z_) : G p l e rm_M_findFits s m args below meth c K A WM 4 0 0 Q 171 [(0, .ref (ad 100)), (1, .int x1), (2, .int x2)] [.int y3, .int y2, .int y1, .ref (ad 113)] ad h := by
  unfold K_M_findFits_J171 at hE
  refine g_iand C0 d_M_findFits_171 ?_
  obtain ⟨q172, hE⟩ := sA_some hE
  obtain ⟨h172, e172, hE⟩ := nm_some hE
  refine g_iast C0 13 rfl nd_M q172 d_M_findFits_172 ?_
  refine g_heap e172 ?_
  obtain ⟨v173, e173, hE⟩ := nm_some hE
  refine g_iinc C0 2 [(2, .int v173), (0, .ref (ad 100)), (1, .int x1)] d_M_findFits_173 rfl (by rw [e173]; rfl) (by decide) rfl ?_
  refine g_goto C0 (tgt := 89) d_M_findFits_176 (by decide) ?_
  refine g_sub [1, 2, 0] (L' := [(0, .ref (ad 100)), (1, .int x1), (2, .int v173)]) rfl ?_
  exact hk1 _ (Option.some.inj hE).symm
theorem w_M_findFits_J141 {p : Program} {l : Launch} {e : Env} {s : State} {m : MethodId} {args : Array Value} {below : List Frame} {meth : Method} {c : Code} {K : KT} {A : Nat → Prop} {Q : State → Prop} (C0 : Cx p s m args meth c prog_13_method_79_code "CanoeSidesModel" 4 K A) (hr : meth.sig.returnType = (Option.none : Option Jvm.ClassFile.FieldType)) {ad : Nat → Nat} (N : Nat) (x1 : Int32) (x2 : Int32) (x3 : Int32) (y1 : Int32) (y2 : Int32) (y3 : Int32) (h : Hp) {x_ : (Int32 × Hp) ⊕ (Hp)} (hE : K_M_findFits_J141 N x1 x2 x3 y1 y2 y3 h = some x_) (hk1 : ∀ z_, x_ = .inl z_ → G p l e rm_M_findFits s m args below meth c K A WM 4 0 0 Q 89 [(0, .ref (ad 100)), (1, .int x1), (2, .int z_.1)] [] ad z_.2) (hk3 : ∀ z_, x_ = .inr z_ → G p l e rm_M_findFits s m args below meth c K A WM 4 0 0 Q 179 [(0, .ref (ad 100)), (1, .int x1)] [] ad z_) : G p l e rm_M_findFits s m args below meth c K A WM 4 0 0 Q 141 [(0, .ref (ad 100)), (1, .int x1), (2, .int x2), (3, .int x3)] [.int y3, .int y2, .int y1, .ref (ad 113)] ad h := by
  unfold K_M_findFits_J141 at hE
  refine g_iand C0 d_M_findFits_141 ?_
  obtain ⟨q142, hE⟩ := sA_some hE
  obtain ⟨h142, e142, hE⟩ := nm_some hE
  refine g_iast C0 13 rfl nd_M q142 d_M_findFits_142 ?_
  refine g_heap e142 ?_
  refine g_aload_n C0 0 d_M_findFits_143 rfl rfl ?_
  refine g_getr C0 CK_11 29 (by decide) t_1119 0 rfl rfl d_M_findFits_144 ?_
  refine g_iconst C0 (v := 1) d_M_findFits_147 (by decide) ?_
  refine g_dup2_11 C0 d_M_findFits_148 rfl rfl ?_
  obtain ⟨q149, v149, e149, hE⟩ := gA_some hE
  refine g_iald C0 13 rfl q149 d_M_findFits_149 ?_
  refine g_top e149 ?_
  refine g_iload_n C0 3 d_M_findFits_150 rfl rfl ?_
  refine g_iconst C0 (v := 4) d_M_findFits_151 (by decide) ?_
  refine g_irem C0 d_M_findFits_152 (by decide) ?_
  refine g_iconst C0 (v := 3) d_M_findFits_153 (by decide) ?_
  have hB := ite_some hE
  refine g_icmp_ne C0 (tgt := 166) d_M_findFits_154 (by decide) (fun c_ => ?_) (fun c_ => ?_)
  · replace hE := hB.2 c_
    refine g_iconst C0 (v := 1) d_M_findFits_166 (by decide) ?_
    refine g_iload_n C0 2 d_M_findFits_167 rfl rfl ?_
    refine g_ishl C0 d_M_findFits_168 ?_
    refine g_iconst C0 (v := (-1)) d_M_findFits_169 (by decide) ?_
    refine g_ixor C0 d_M_findFits_170 ?_
    refine g_sub [0, 1, 2] (L' := [(0, .ref (ad 100)), (1, .int x1), (2, .int x2)]) rfl ?_
    exact w_M_findFits_J171 C0 hr N x1 x2 1 v149 ((1 <<< (x2 &&& 31)) ^^^ (-1)) h142 hE hk1 hk3
  · replace hE := hB.1 c_
    refine g_aload_n C0 0 d_M_findFits_157 rfl rfl ?_
    refine g_getr C0 CK_11 29 (by decide) t_1119 0 rfl rfl d_M_findFits_158 ?_
    refine g_iconst C0 (v := 1) d_M_findFits_161 (by decide) ?_
    obtain ⟨q162, v162, e162, hE⟩ := gA_some hE
    refine g_iald C0 13 rfl q162 d_M_findFits_162 ?_
    refine g_top e162 ?_
    refine g_goto C0 (tgt := 171) d_M_findFits_163 (by decide) ?_
    refine g_sub [0, 1, 2] (L' := [(0, .ref (ad 100)), (1, .int x1), (2, .int x2)]) rfl ?_
    exact w_M_findFits_J171 C0 hr N x1 x2 1 v149 v162 h142 hE hk1 hk3
theorem w_M_findFits_L89 {p : Program} {l : Launch} {e : Env} {s : State} {m : MethodId} {args : Array Value} {below : List Frame} {meth : Method} {c : Code} {K : KT} {A : Nat → Prop} {Q : State → Prop} (C0 : Cx p s m args meth c prog_13_method_79_code "CanoeSidesModel" 4 K A) (hr : meth.sig.returnType = (Option.none : Option Jvm.ClassFile.FieldType)) {ad : Nat → Nat} (N : Nat) (x1 : Int32) (x2 : Int32) (h : Hp) {x_ : (Int32 × Hp) ⊕ (Hp)} (hE : K_M_findFits_L89 N x1 x2 h = some x_) (hk1 : ∀ z_, x_ = .inl z_ → G p l e rm_M_findFits s m args below meth c K A WM 4 0 0 Q 89 [(0, .ref (ad 100)), (1, .int x1), (2, .int z_.1)] [] ad z_.2) (hk3 : ∀ z_, x_ = .inr z_ → G p l e rm_M_findFits s m args below meth c K A WM 4 0 0 Q 179 [(0, .ref (ad 100)), (1, .int x1)] [] ad z_) : G p l e rm_M_findFits s m args below meth c K A WM 4 0 0 Q 89 [(0, .ref (ad 100)), (1, .int x1), (2, .int x2)] [] ad h := by
  unfold K_M_findFits_L89 at hE
  refine g_iload_n C0 2 d_M_findFits_89 rfl rfl ?_
  refine g_aload_n C0 0 d_M_findFits_90 rfl rfl ?_
  refine g_geti C0 CK_11 26 (by decide) t_1116 0 rfl rfl d_M_findFits_91 ?_
  have hB := ite_some hE
  refine g_icmp_ge C0 (tgt := 179) d_M_findFits_94 (by decide) (fun c_ => ?_) (fun c_ => ?_)
  · replace hE := hB.1 c_
    refine g_sub [0, 1] (L' := [(0, .ref (ad 100)), (1, .int x1)]) rfl ?_
    exact hk3 _ (Option.some.inj hE).symm
  · replace hE := hB.2 c_
    refine g_iload_n C0 1 d_M_findFits_97 rfl rfl ?_
    refine g_iconst C0 (v := 4) d_M_findFits_98 (by decide) ?_
    refine g_aload_n C0 0 d_M_findFits_99 rfl rfl ?_
    refine g_geti C0 CK_11 26 (by decide) t_1116 0 rfl rfl d_M_findFits_100 ?_
    refine g_iconst C0 (v := 1) d_M_findFits_103 (by decide) ?_
    refine g_isub C0 d_M_findFits_104 ?_
    refine g_iload_n C0 2 d_M_findFits_105 rfl rfl ?_
    refine g_isub C0 d_M_findFits_106 ?_
    refine g_imul C0 d_M_findFits_107 ?_
    refine g_ishr C0 d_M_findFits_108 ?_
    refine g_bipush C0 (v := 15) d_M_findFits_109 (by decide) ?_
    refine g_iand C0 d_M_findFits_111 ?_
    obtain ⟨v112, e112, hE⟩ := nm_some hE
    refine g_top e112 ?_
    refine g_istore_n C0 [(3, .int v112), (0, .ref (ad 100)), (1, .int x1), (2, .int x2)] d_M_findFits_112 rfl (by decide) rfl ?_
    refine g_aload_n C0 1 d_M_findFits_113 rfl rfl ?_
    refine g_getr C0 CK_11 29 (by decide) t_1119 0 rfl rfl d_M_findFits_114 ?_
    refine g_iconst C0 (v := 0) d_M_findFits_117 (by decide) ?_
    refine g_dup2_11 C0 d_M_findFits_118 rfl rfl ?_
    obtain ⟨q119, v119, e119, hE⟩ := gA_some hE
    refine g_iald C0 13 rfl q119 d_M_findFits_119 ?_
    refine g_top e119 ?_
    refine g_iload_n C0 0 d_M_findFits_120 rfl rfl ?_
    refine g_iconst C0 (v := 4) d_M_findFits_121 (by decide) ?_
    refine g_idiv C0 d_M_findFits_122 (by decide) ?_
    refine g_iconst C0 (v := 3) d_M_findFits_123 (by decide) ?_
    have hB := ite_some hE
    refine g_icmp_ne C0 (tgt := 136) d_M_findFits_124 (by decide) (fun c_ => ?_) (fun c_ => ?_)
    · replace hE := hB.2 c_
      refine g_iconst C0 (v := 1) d_M_findFits_136 (by decide) ?_
      refine g_iload_n C0 3 d_M_findFits_137 rfl rfl ?_
      refine g_ishl C0 d_M_findFits_138 ?_
      refine g_iconst C0 (v := (-1)) d_M_findFits_139 (by decide) ?_
      refine g_ixor C0 d_M_findFits_140 ?_
      refine g_sub [1, 2, 3, 0] (L' := [(0, .ref (ad 100)), (1, .int x1), (2, .int x2), (3, .int v112)]) rfl ?_
      exact w_M_findFits_J141 C0 hr N x1 x2 v112 0 v119 ((1 <<< (x2 &&& 31)) ^^^ (-1)) h hE hk1 hk3
    · replace hE := hB.1 c_
      refine g_aload_n C0 1 d_M_findFits_127 rfl rfl ?_
      refine g_getr C0 CK_11 29 (by decide) t_1119 0 rfl rfl d_M_findFits_128 ?_
      refine g_iconst C0 (v := 0) d_M_findFits_131 (by decide) ?_
      obtain ⟨q132, v132, e132, hE⟩ := gA_some hE
      refine g_iald C0 13 rfl q132 d_M_findFits_132 ?_
      refine g_top e132 ?_
      refine g_goto C0 (tgt := 141) d_M_findFits_133 (by decide) ?_
      refine g_sub [1, 2, 3, 0] (L' := [(0, .ref (ad 100)), (1, .int x1), (2, .int x2), (3, .int v112)]) rfl ?_
      exact w_M_findFits_J141 C0 hr N x1 x2 v112 0 v119 v132 h hE hk1 hk3
theorem w_M_findFits_J74 {p : Program} {l : Launch} {e : Env} {s : State} {m : MethodId} {args : Array Value} {below : List Frame} {meth : Method} {c : Code} {K : KT} {A : Nat → Prop} {Q : State → Prop} (C0 : Cx p s m args meth c prog_13_method_79_code "CanoeSidesModel" 4 K A) (hr : meth.sig.returnType = (Option.none : Option Jvm.ClassFile.FieldType)) {ad : Nat → Nat} (N : Nat) (x1 : Int32) (y1 : Int32) (h : Hp) {x_ : (Int32 × Hp) ⊕ (Hp)} (hE : K_M_findFits_J74 N x1 y1 h = some x_) (hk1 : ∀ z_, x_ = .inl z_ → G p l e rm_M_findFits s m args below meth c K A WM 4 0 0 Q 38 [(0, .ref (ad 100)), (1, .int z_.1)] [] ad z_.2) (hk3 : ∀ z_, x_ = .inr z_ → G p l e rm_M_findFits s m args below meth c K A WM 4 0 0 Q 185 [] [] ad z_) : G p l e rm_M_findFits s m args below meth c K A WM 4 0 0 Q 74 [(0, .ref (ad 100)), (1, .int x1)] [.int y1, .ref (ad 100)] ad h := by
  unfold K_M_findFits_J74 at hE
  obtain ⟨h74, e74, hE⟩ := nm_some hE
  refine g_puti C0 CK_11 CT_11 28 (by decide) t_1118 rfl (by decide +kernel) nd_M 0 rfl rfl d_M_findFits_74 ?_
  refine g_heap e74 ?_
  refine g_aload_n C0 0 d_M_findFits_77 rfl rfl ?_
  refine g_dup C0 d_M_findFits_78 rfl ?_
  refine g_geti C0 CK_11 27 (by decide) t_1117 0 rfl rfl d_M_findFits_79 ?_
  refine g_iconst C0 (v := 1) d_M_findFits_82 (by decide) ?_
  refine g_iadd C0 d_M_findFits_83 ?_
  obtain ⟨h84, e84, hE⟩ := nm_some hE
  refine g_puti C0 CK_11 CT_11 27 (by decide) t_1117 rfl (by decide +kernel) nd_M 0 rfl rfl d_M_findFits_84 ?_
  refine g_heap e84 ?_
  refine g_iconst C0 (v := 0) d_M_findFits_87 (by decide) ?_
  refine g_istore_n C0 [(2, .int 0), (0, .ref (ad 100)), (1, .int x1)] d_M_findFits_88 rfl (by decide) rfl ?_
  refine g_sub [1, 2, 0] (L' := [(0, .ref (ad 100)), (1, .int x1), (2, .int 0)]) rfl ?_
  obtain ⟨t89, z89, hE⟩ := bd_some hE
  refine loopG (fun z_ : Int32 × Hp => K_M_findFits_L89 N x1 z_.1 z_.2) (fun z_ : Int32 × Hp => G p l e rm_M_findFits s m args below meth c K A WM 4 0 0 _ 89 [(0, .ref (ad 100)), (1, .int x1), (2, .int z_.1)] [] ad z_.2) (fun z_ : Hp => G p l e rm_M_findFits s m args below meth c K A WM 4 0 0 _ 179 [(0, .ref (ad 100)), (1, .int x1)] [] ad z_) (fun z_ x_ hz k1 k2 => w_M_findFits_L89 C0 hr N x1 z_.1 z_.2 hz k1 k2) _ _ _ z89 ?_
  try dsimp only
  obtain ⟨v179, e179, hE⟩ := nm_some hE
  refine g_iinc C0 1 [(1, .int v179), (0, .ref (ad 100))] d_M_findFits_179 rfl (by rw [e179]; rfl) (by decide) rfl ?_
  refine g_goto C0 (tgt := 38) d_M_findFits_182 (by decide) ?_
  refine g_sub [1, 0] (L' := [(0, .ref (ad 100)), (1, .int v179)]) rfl ?_
  exact hk1 _ (Option.some.inj hE).symm
theorem w_M_findFits_L38 {p : Program} {l : Launch} {e : Env} {s : State} {m : MethodId} {args : Array Value} {below : List Frame} {meth : Method} {c : Code} {K : KT} {A : Nat → Prop} {Q : State → Prop} (C0 : Cx p s m args meth c prog_13_method_79_code "CanoeSidesModel" 4 K A) (hr : meth.sig.returnType = (Option.none : Option Jvm.ClassFile.FieldType)) {ad : Nat → Nat} (N : Nat) (x1 : Int32) (h : Hp) {x_ : (Int32 × Hp) ⊕ (Hp)} (hE : K_M_findFits_L38 N x1 h = some x_) (hk1 : ∀ z_, x_ = .inl z_ → G p l e rm_M_findFits s m args below meth c K A WM 4 0 0 Q 38 [(0, .ref (ad 100)), (1, .int z_.1)] [] ad z_.2) (hk3 : ∀ z_, x_ = .inr z_ → G p l e rm_M_findFits s m args below meth c K A WM 4 0 0 Q 185 [] [] ad z_) : G p l e rm_M_findFits s m args below meth c K A WM 4 0 0 Q 38 [(0, .ref (ad 100)), (1, .int x1)] [] ad h := by
  unfold K_M_findFits_L38 at hE
  refine g_iload_n C0 1 d_M_findFits_38 rfl rfl ?_
  refine g_iconst C0 (v := 1) d_M_findFits_39 (by decide) ?_
  refine g_iconst C0 (v := 4) d_M_findFits_40 (by decide) ?_
  refine g_aload_n C0 0 d_M_findFits_41 rfl rfl ?_
  refine g_geti C0 CK_11 26 (by decide) t_1116 0 rfl rfl d_M_findFits_42 ?_
  refine g_imul C0 d_M_findFits_45 ?_
  refine g_ishl C0 d_M_findFits_46 ?_
  have hB := ite_some hE
  refine g_icmp_ge C0 (tgt := 185) d_M_findFits_47 (by decide) (fun c_ => ?_) (fun c_ => ?_)
  · replace hE := hB.1 c_
    refine g_sub [] (L' := []) rfl ?_
    exact hk3 _ (Option.some.inj hE).symm
  · replace hE := hB.2 c_
    refine g_aload_n C0 0 d_M_findFits_50 rfl rfl ?_
    refine g_iload_n C0 1 d_M_findFits_51 rfl rfl ?_
    obtain ⟨v52, h52, z52, hE⟩ := bd2_some hE
    refine g_calli C0 nd_M [100, 101, 102, 103, 104, 105, 106, 107, 108, 109, 110, 111, 112, 113, 114, 115] rfl (sbW_self WM) (runV C0 (m_M_fitsRow l K ad h N x1 z52) 1 rfl ⟨t_1505, t_1507, t_82, t_97, t_1508⟩ cd_M_fitsRow (by decide) 0 rfl rfl (sbW_self WM) nd_M rfl rfl (Nat.le_of_ble_eq_true rfl) d_M_findFits_52) ?_
    refine g_mx [100, 101, 102, 103, 104, 105, 106, 107, 108, 109, 110, 111, 112, 113, 114, 115] rfl ?_
    have hB := ite_some hE
    refine g_if_eq C0 (tgt := 179) d_M_findFits_55 (by decide) (fun c_ => ?_) (fun c_ => ?_)
    · replace hE := hB.1 c_
      obtain ⟨v179, e179, hE⟩ := nm_some hE
      refine g_iinc C0 1 [(1, .int v179), (0, .ref (ad 100))] d_M_findFits_179 rfl (by rw [e179]; rfl) (by decide) rfl ?_
      refine g_goto C0 (tgt := 38) d_M_findFits_182 (by decide) ?_
      refine g_sub [1, 0] (L' := [(0, .ref (ad 100)), (1, .int v179)]) rfl ?_
      exact hk1 _ (Option.some.inj hE).symm
    · replace hE := hB.2 c_
      refine g_aload_n C0 0 d_M_findFits_58 rfl rfl ?_
      refine g_aload_n C0 0 d_M_findFits_59 rfl rfl ?_
      refine g_geti C0 CK_11 27 (by decide) t_1117 0 rfl rfl d_M_findFits_60 ?_
      have hB := ite_some hE
      refine g_if_ne C0 (tgt := 70) d_M_findFits_63 (by decide) (fun c_ => ?_) (fun c_ => ?_)
      · replace hE := hB.2 c_
        refine g_aload_n C0 0 d_M_findFits_70 rfl rfl ?_
        refine g_geti C0 CK_11 28 (by decide) t_1118 0 rfl rfl d_M_findFits_71 ?_
        exact w_M_findFits_J74 C0 hr N x1 (h52 100 28) h52 hE hk1 hk3
      · replace hE := hB.1 c_
        refine g_iload_n C0 1 d_M_findFits_66 rfl rfl ?_
        refine g_goto C0 (tgt := 74) d_M_findFits_67 (by decide) ?_
        exact w_M_findFits_J74 C0 hr N x1 x1 h52 hE hk1 hk3
theorem w_M_findFits {p : Program} {l : Launch} {e : Env} {s : State} {m : MethodId} {args : Array Value} {below : List Frame} {meth : Method} {c : Code} {K : KT} {A : Nat → Prop} (C0 : Cx p s m args meth c prog_13_method_79_code "CanoeSidesModel" 4 K A) (hr : meth.sig.returnType = (Option.none : Option Jvm.ClassFile.FieldType)) {ad : Nat → Nat} (N : Nat) (h : Hp) {res : Hp} (hE : K_M_findFits N h = some res) : G p l e rm_M_findFits s m args below meth c K A WM 4 0 0 (QV s args below K A WM 0 0 ad res) 0 [(0, .ref (ad 100))] [] ad h := by
  unfold K_M_findFits at hE
  refine g_aload_n C0 0 d_M_findFits_0 rfl rfl ?_
  refine g_iconst C0 (v := 0) d_M_findFits_1 (by decide) ?_
  obtain ⟨h2, e2, hE⟩ := nm_some hE
  refine g_puti C0 CK_11 CT_11 12 (by decide) t_1102 rfl (by decide +kernel) nd_M 0 rfl rfl d_M_findFits_2 ?_
  refine g_heap e2 ?_
  refine g_aload_n C0 0 d_M_findFits_5 rfl rfl ?_
  refine g_iconst C0 (v := 0) d_M_findFits_6 (by decide) ?_
  obtain ⟨h7, e7, hE⟩ := nm_some hE
  refine g_puti C0 CK_11 CT_11 27 (by decide) t_1117 rfl (by decide +kernel) nd_M 0 rfl rfl d_M_findFits_7 ?_
  refine g_heap e7 ?_
  refine g_aload_n C0 0 d_M_findFits_10 rfl rfl ?_
  refine g_getr C0 CK_11 29 (by decide) t_1119 0 rfl rfl d_M_findFits_11 ?_
  refine g_iconst C0 (v := 0) d_M_findFits_14 (by decide) ?_
  refine g_iconst C0 (v := 1) d_M_findFits_15 (by decide) ?_
  refine g_aload_n C0 0 d_M_findFits_16 rfl rfl ?_
  refine g_geti C0 CK_11 26 (by decide) t_1116 0 rfl rfl d_M_findFits_17 ?_
  refine g_ishl C0 d_M_findFits_20 ?_
  refine g_iconst C0 (v := 1) d_M_findFits_21 (by decide) ?_
  refine g_isub C0 d_M_findFits_22 ?_
  obtain ⟨q23, hE⟩ := sA_some hE
  obtain ⟨h23, e23, hE⟩ := nm_some hE
  refine g_iast C0 13 rfl nd_M q23 d_M_findFits_23 ?_
  refine g_heap e23 ?_
  refine g_aload_n C0 0 d_M_findFits_24 rfl rfl ?_
  refine g_getr C0 CK_11 29 (by decide) t_1119 0 rfl rfl d_M_findFits_25 ?_
  refine g_iconst C0 (v := 1) d_M_findFits_28 (by decide) ?_
  refine g_aload_n C0 0 d_M_findFits_29 rfl rfl ?_
  refine g_getr C0 CK_11 29 (by decide) t_1119 0 rfl rfl d_M_findFits_30 ?_
  refine g_iconst C0 (v := 0) d_M_findFits_33 (by decide) ?_
  obtain ⟨q34, v34, e34, hE⟩ := gA_some hE
  refine g_iald C0 13 rfl q34 d_M_findFits_34 ?_
  refine g_top e34 ?_
  obtain ⟨q35, hE⟩ := sA_some hE
  obtain ⟨h35, e35, hE⟩ := nm_some hE
  refine g_iast C0 13 rfl nd_M q35 d_M_findFits_35 ?_
  refine g_heap e35 ?_
  refine g_iconst C0 (v := 0) d_M_findFits_36 (by decide) ?_
  refine g_istore_n C0 [(1, .int 0), (0, .ref (ad 100))] d_M_findFits_37 rfl (by decide) rfl ?_
  refine g_sub [1, 0] (L' := [(0, .ref (ad 100)), (1, .int 0)]) rfl ?_
  obtain ⟨t38, z38, hE⟩ := bd_some hE
  refine loopG (fun z_ : Int32 × Hp => K_M_findFits_L38 N z_.1 z_.2) (fun z_ : Int32 × Hp => G p l e rm_M_findFits s m args below meth c K A WM 4 0 0 _ 38 [(0, .ref (ad 100)), (1, .int z_.1)] [] ad z_.2) (fun z_ : Hp => G p l e rm_M_findFits s m args below meth c K A WM 4 0 0 _ 185 [] [] ad z_) (fun z_ x_ hz k1 k2 => w_M_findFits_L38 C0 hr N z_.1 z_.2 hz k1 k2) _ _ _ z38 ?_
  try dsimp only
  obtain rfl := Option.some.inj hE
  exact g_vret C0 hr d_M_findFits_185
theorem m_M_findFits (l : Launch) (K : KT) (ad : Nat → Nat) (h : Hp) (N : Nat) {res : Hp} (hE : K_M_findFits N h = some res) : ConV l y_M_findFits prog_13_method_79_code 4 (Option.none : Option Jvm.ClassFile.FieldType) rm_M_findFits K WM ad h [.ref (ad 100)] res := fun sz =>
  con_start [(0, .ref (ad 100))] (by decide +kernel) rfl (Nat.le_of_ble_eq_true rfl) (fun p e s m args below meth c C0 hr hnm hsz => w_M_findFits C0 hr N h hE)
abbrev y_M_fits : MethodName := ⟨"CanoeSidesModel", "fits", "(I)I"⟩
abbrev rm_M_fits : Room := { frames := 8, cells := 0, slots := 0, locals := 195 }
theorem cd_M_fits : cwd y_M_fits 1 := by decide +kernel
theorem d_M_fits_0 : decode prog_13_method_80_code 0 = .ok (.aload_n 0, 1) := by decide +kernel
theorem d_M_fits_1 : decode prog_13_method_80_code 1 = .ok (.invokevirtual 143, 3) := by decide +kernel
theorem d_M_fits_4 : decode prog_13_method_80_code 4 = .ok (.ifCond .eq 6, 3) := by decide +kernel
theorem d_M_fits_7 : decode prog_13_method_80_code 7 = .ok (.ldc 215, 2) := by decide +kernel
theorem d_M_fits_9 : decode prog_13_method_80_code 9 = .ok (.ireturn, 1) := by decide +kernel
theorem d_M_fits_10 : decode prog_13_method_80_code 10 = .ok (.aload_n 0, 1) := by decide +kernel
theorem d_M_fits_11 : decode prog_13_method_80_code 11 = .ok (.invokevirtual 320, 3) := by decide +kernel
theorem d_M_fits_14 : decode prog_13_method_80_code 14 = .ok (.iload_n 1, 1) := by decide +kernel
theorem d_M_fits_15 : decode prog_13_method_80_code 15 = .ok (.iconst (-1), 1) := by decide +kernel
theorem d_M_fits_16 : decode prog_13_method_80_code 16 = .ok (.if_icmp .ne 10, 3) := by decide +kernel
theorem d_M_fits_19 : decode prog_13_method_80_code 19 = .ok (.aload_n 0, 1) := by decide +kernel
theorem d_M_fits_20 : decode prog_13_method_80_code 20 = .ok (.getfield 311, 3) := by decide +kernel
theorem d_M_fits_23 : decode prog_13_method_80_code 23 = .ok (.goto 48, 3) := by decide +kernel
theorem d_M_fits_26 : decode prog_13_method_80_code 26 = .ok (.aload_n 0, 1) := by decide +kernel
theorem d_M_fits_27 : decode prog_13_method_80_code 27 = .ok (.getfield 311, 3) := by decide +kernel
theorem d_M_fits_30 : decode prog_13_method_80_code 30 = .ok (.ifCond .le 40, 3) := by decide +kernel
theorem d_M_fits_33 : decode prog_13_method_80_code 33 = .ok (.iload_n 1, 1) := by decide +kernel
theorem d_M_fits_34 : decode prog_13_method_80_code 34 = .ok (.i2l, 1) := by decide +kernel
theorem d_M_fits_35 : decode prog_13_method_80_code 35 = .ok (.lconst 0, 1) := by decide +kernel
theorem d_M_fits_36 : decode prog_13_method_80_code 36 = .ok (.aload_n 0, 1) := by decide +kernel
theorem d_M_fits_37 : decode prog_13_method_80_code 37 = .ok (.getfield 134, 3) := by decide +kernel
theorem d_M_fits_40 : decode prog_13_method_80_code 40 = .ok (.iconst 1, 1) := by decide +kernel
theorem d_M_fits_41 : decode prog_13_method_80_code 41 = .ok (.isub, 1) := by decide +kernel
theorem d_M_fits_42 : decode prog_13_method_80_code 42 = .ok (.i2l, 1) := by decide +kernel
theorem d_M_fits_43 : decode prog_13_method_80_code 43 = .ok (.invokestatic 67, 3) := by decide +kernel
theorem d_M_fits_46 : decode prog_13_method_80_code 46 = .ok (.ifCond .eq 24, 3) := by decide +kernel
theorem d_M_fits_49 : decode prog_13_method_80_code 49 = .ok (.aload_n 0, 1) := by decide +kernel
theorem d_M_fits_50 : decode prog_13_method_80_code 50 = .ok (.getfield 317, 3) := by decide +kernel
theorem d_M_fits_53 : decode prog_13_method_80_code 53 = .ok (.iconst 4, 1) := by decide +kernel
theorem d_M_fits_54 : decode prog_13_method_80_code 54 = .ok (.aload_n 0, 1) := by decide +kernel
theorem d_M_fits_55 : decode prog_13_method_80_code 55 = .ok (.getfield 134, 3) := by decide +kernel
theorem d_M_fits_58 : decode prog_13_method_80_code 58 = .ok (.iconst 1, 1) := by decide +kernel
theorem d_M_fits_59 : decode prog_13_method_80_code 59 = .ok (.isub, 1) := by decide +kernel
theorem d_M_fits_60 : decode prog_13_method_80_code 60 = .ok (.iload_n 1, 1) := by decide +kernel
theorem d_M_fits_61 : decode prog_13_method_80_code 61 = .ok (.isub, 1) := by decide +kernel
theorem d_M_fits_62 : decode prog_13_method_80_code 62 = .ok (.imul, 1) := by decide +kernel
theorem d_M_fits_63 : decode prog_13_method_80_code 63 = .ok (.ishr, 1) := by decide +kernel
theorem d_M_fits_64 : decode prog_13_method_80_code 64 = .ok (.bipush 15, 2) := by decide +kernel
theorem d_M_fits_66 : decode prog_13_method_80_code 66 = .ok (.iand, 1) := by decide +kernel
theorem d_M_fits_67 : decode prog_13_method_80_code 67 = .ok (.goto 4, 3) := by decide +kernel
theorem d_M_fits_70 : decode prog_13_method_80_code 70 = .ok (.iconst (-1), 1) := by decide +kernel
theorem d_M_fits_71 : decode prog_13_method_80_code 71 = .ok (.ireturn, 1) := by decide +kernel
theorem w_M_fits {p : Program} {l : Launch} {e : Env} {s : State} {m : MethodId} {args : Array Value} {below : List Frame} {meth : Method} {c : Code} {K : KT} {A : Nat → Prop} (C0 : Cx p s m args meth c prog_13_method_80_code "CanoeSidesModel" 2 K A) (hr : meth.sig.returnType = (Option.some Jvm.ClassFile.FieldType.int)) {ad : Nat → Nat} (N : Nat) (a0 : Int32) (h : Hp) {res : Int32 × Hp} (hE : K_M_fits N a0 h = some res) : G p l e rm_M_fits s m args below meth c K A WM 2 0 0 (QI s args below K A WM 0 0 ad res.1 res.2) 0 [(0, .ref (ad 100)), (1, .int a0)] [] ad h := by
  unfold K_M_fits at hE
  refine g_aload_n C0 0 d_M_fits_0 rfl rfl ?_
  obtain ⟨v1, z1, hE⟩ := bd_some hE
  refine g_calliP C0 nd_M [100, 101, 102, 103, 104, 105, 106, 107, 108, 109, 110, 111, 112, 113, 114, 115] rfl (sbW_self WM) (runV C0 (m_M_isNone l K ad h z1) 0 rfl ⟨t_1264, t_1266, t_51, t_97, t_1267⟩ cd_M_isNone (by decide) 0 rfl rfl (sbW_self WM) nd_M rfl rfl (Nat.le_of_ble_eq_true rfl) d_M_fits_1) ?_
  have hB := ite_some hE
  refine g_if_eq C0 (tgt := 10) d_M_fits_4 (by decide) (fun c_ => ?_) (fun c_ => ?_)
  · replace hE := hB.1 c_
    refine g_aload_n C0 0 d_M_fits_10 rfl rfl ?_
    obtain ⟨h11, z11, hE⟩ := bd_some hE
    refine g_callv C0 nd_M [100, 101, 102, 103, 104, 105, 106, 107, 108, 109, 110, 111, 112, 113, 114, 115] rfl (sbW_self WM) (runV C0 (m_M_findFits l K ad h N z11) 0 rfl ⟨t_1501, t_1503, t_81, t_97, t_1504⟩ cd_M_findFits (by decide) 0 rfl rfl (sbW_self WM) nd_M rfl rfl (Nat.le_of_ble_eq_true rfl) d_M_fits_11) ?_
    refine g_mx [100, 101, 102, 103, 104, 105, 106, 107, 108, 109, 110, 111, 112, 113, 114, 115] rfl ?_
    refine g_iload_n C0 1 d_M_fits_14 rfl rfl ?_
    refine g_iconst C0 (v := (-1)) d_M_fits_15 (by decide) ?_
    have hB := ite_some hE
    refine g_icmp_ne C0 (tgt := 26) d_M_fits_16 (by decide) (fun c_ => ?_) (fun c_ => ?_)
    · replace hE := hB.2 c_
      refine g_aload_n C0 0 d_M_fits_26 rfl rfl ?_
      refine g_geti C0 CK_11 27 (by decide) t_1117 0 rfl rfl d_M_fits_27 ?_
      have hB := ite_some hE
      refine g_if_le C0 (tgt := 70) d_M_fits_30 (by decide) (fun c_ => ?_) (fun c_ => ?_)
      · replace hE := hB.1 c_
        refine g_iconst C0 (v := (-1)) d_M_fits_70 (by decide) ?_
        obtain rfl := Option.some.inj hE
        exact g_iret C0 hr d_M_fits_71
      · replace hE := hB.2 c_
        refine g_iload_n C0 1 d_M_fits_33 rfl rfl ?_
        refine g_i2l C0 d_M_fits_34 ?_
        refine g_lconst C0 (v := 0) d_M_fits_35 (by decide) ?_
        refine g_aload_n C0 0 d_M_fits_36 rfl rfl ?_
        refine g_geti C0 CK_11 26 (by decide) t_1116 0 rfl rfl d_M_fits_37 ?_
        refine g_iconst C0 (v := 1) d_M_fits_40 (by decide) ?_
        refine g_isub C0 d_M_fits_41 ?_
        refine g_i2l C0 d_M_fits_42 ?_
        obtain ⟨v43, z43, hE⟩ := bd_some hE
        refine g_calliP C0 nd_M [] rfl (sb_E_M) (runS C0 (m_M_in l K ad h11 (Int32.toInt64 a0) 0 (Int32.toInt64 ((h11 100 26) - 1)) z43) 3 ⟨t_1196, t_1197, t_97, t_1198⟩ cd_M_in (by decide) (sb_E_M) nd_E rfl rfl (Nat.le_of_ble_eq_true rfl) d_M_fits_43) ?_
        have hB := ite_some hE
        refine g_if_eq C0 (tgt := 70) d_M_fits_46 (by decide) (fun c_ => ?_) (fun c_ => ?_)
        · replace hE := hB.1 c_
          refine g_iconst C0 (v := (-1)) d_M_fits_70 (by decide) ?_
          obtain rfl := Option.some.inj hE
          exact g_iret C0 hr d_M_fits_71
        · replace hE := hB.2 c_
          refine g_aload_n C0 0 d_M_fits_49 rfl rfl ?_
          refine g_geti C0 CK_11 28 (by decide) t_1118 0 rfl rfl d_M_fits_50 ?_
          refine g_iconst C0 (v := 4) d_M_fits_53 (by decide) ?_
          refine g_aload_n C0 0 d_M_fits_54 rfl rfl ?_
          refine g_geti C0 CK_11 26 (by decide) t_1116 0 rfl rfl d_M_fits_55 ?_
          refine g_iconst C0 (v := 1) d_M_fits_58 (by decide) ?_
          refine g_isub C0 d_M_fits_59 ?_
          refine g_iload_n C0 1 d_M_fits_60 rfl rfl ?_
          refine g_isub C0 d_M_fits_61 ?_
          refine g_imul C0 d_M_fits_62 ?_
          refine g_ishr C0 d_M_fits_63 ?_
          refine g_bipush C0 (v := 15) d_M_fits_64 (by decide) ?_
          refine g_iand C0 d_M_fits_66 ?_
          refine g_goto C0 (tgt := 71) d_M_fits_67 (by decide) ?_
          obtain rfl := Option.some.inj hE
          exact g_iret C0 hr d_M_fits_71
    · replace hE := hB.1 c_
      refine g_aload_n C0 0 d_M_fits_19 rfl rfl ?_
      refine g_geti C0 CK_11 27 (by decide) t_1117 0 rfl rfl d_M_fits_20 ?_
      refine g_goto C0 (tgt := 71) d_M_fits_23 (by decide) ?_
      obtain rfl := Option.some.inj hE
      exact g_iret C0 hr d_M_fits_71
  · replace hE := hB.2 c_
    refine g_ldc C0 (v := (-1000000003)) t_1296 d_M_fits_7 ?_
    obtain rfl := Option.some.inj hE
    exact g_iret C0 hr d_M_fits_9
theorem m_M_fits (l : Launch) (K : KT) (ad : Nat → Nat) (h : Hp) (N : Nat) (a0 : Int32) {res : Int32 × Hp} (hE : K_M_fits N a0 h = some res) : ConI l y_M_fits prog_13_method_80_code 2 (Option.some Jvm.ClassFile.FieldType.int) rm_M_fits K WM ad h [.ref (ad 100), .int a0] res.1 res.2 := fun sz =>
  con_start [(0, .ref (ad 100)), (1, .int a0)] (by decide +kernel) rfl (Nat.le_of_ble_eq_true rfl) (fun p e s m args below meth c C0 hr hnm hsz => w_M_fits C0 hr N a0 h hE)
abbrev y_M_gave : MethodName := ⟨"CanoeSidesModel", "gave", "(I)I"⟩
abbrev rm_M_gave : Room := { frames := 8, cells := 0, slots := 0, locals := 195 }
theorem cd_M_gave : cwd y_M_gave 1 := by decide +kernel
theorem d_M_gave_0 : decode prog_13_method_81_code 0 = .ok (.iload_n 1, 1) := by decide +kernel
theorem d_M_gave_1 : decode prog_13_method_81_code 1 = .ok (.i2l, 1) := by decide +kernel
theorem d_M_gave_2 : decode prog_13_method_81_code 2 = .ok (.lconst 0, 1) := by decide +kernel
theorem d_M_gave_3 : decode prog_13_method_81_code 3 = .ok (.lconst 1, 1) := by decide +kernel
theorem d_M_gave_4 : decode prog_13_method_81_code 4 = .ok (.invokestatic 67, 3) := by decide +kernel
theorem d_M_gave_7 : decode prog_13_method_81_code 7 = .ok (.ifCond .ne 6, 3) := by decide +kernel
theorem d_M_gave_10 : decode prog_13_method_81_code 10 = .ok (.ldc 71, 2) := by decide +kernel
theorem d_M_gave_12 : decode prog_13_method_81_code 12 = .ok (.ireturn, 1) := by decide +kernel
theorem d_M_gave_13 : decode prog_13_method_81_code 13 = .ok (.aload_n 0, 1) := by decide +kernel
theorem d_M_gave_14 : decode prog_13_method_81_code 14 = .ok (.invokevirtual 143, 3) := by decide +kernel
theorem d_M_gave_17 : decode prog_13_method_81_code 17 = .ok (.ifCond .eq 6, 3) := by decide +kernel
theorem d_M_gave_20 : decode prog_13_method_81_code 20 = .ok (.ldc 215, 2) := by decide +kernel
theorem d_M_gave_22 : decode prog_13_method_81_code 22 = .ok (.ireturn, 1) := by decide +kernel
theorem d_M_gave_23 : decode prog_13_method_81_code 23 = .ok (.aload_n 0, 1) := by decide +kernel
theorem d_M_gave_24 : decode prog_13_method_81_code 24 = .ok (.invokevirtual 320, 3) := by decide +kernel
theorem d_M_gave_27 : decode prog_13_method_81_code 27 = .ok (.aload_n 0, 1) := by decide +kernel
theorem d_M_gave_28 : decode prog_13_method_81_code 28 = .ok (.getfield 311, 3) := by decide +kernel
theorem d_M_gave_31 : decode prog_13_method_81_code 31 = .ok (.ifCond .ne 7, 3) := by decide +kernel
theorem d_M_gave_34 : decode prog_13_method_81_code 34 = .ok (.iconst 0, 1) := by decide +kernel
theorem d_M_gave_35 : decode prog_13_method_81_code 35 = .ok (.goto 9, 3) := by decide +kernel
theorem d_M_gave_38 : decode prog_13_method_81_code 38 = .ok (.aload_n 0, 1) := by decide +kernel
theorem d_M_gave_39 : decode prog_13_method_81_code 39 = .ok (.getfield 52, 3) := by decide +kernel
theorem d_M_gave_42 : decode prog_13_method_81_code 42 = .ok (.iload_n 1, 1) := by decide +kernel
theorem d_M_gave_43 : decode prog_13_method_81_code 43 = .ok (.iaload, 1) := by decide +kernel
theorem d_M_gave_44 : decode prog_13_method_81_code 44 = .ok (.ireturn, 1) := by decide +kernel
theorem w_M_gave {p : Program} {l : Launch} {e : Env} {s : State} {m : MethodId} {args : Array Value} {below : List Frame} {meth : Method} {c : Code} {K : KT} {A : Nat → Prop} (C0 : Cx p s m args meth c prog_13_method_81_code "CanoeSidesModel" 2 K A) (hr : meth.sig.returnType = (Option.some Jvm.ClassFile.FieldType.int)) {ad : Nat → Nat} (N : Nat) (a0 : Int32) (h : Hp) {res : Int32 × Hp} (hE : K_M_gave N a0 h = some res) : G p l e rm_M_gave s m args below meth c K A WM 2 0 0 (QI s args below K A WM 0 0 ad res.1 res.2) 0 [(0, .ref (ad 100)), (1, .int a0)] [] ad h := by
  unfold K_M_gave at hE
  refine g_iload_n C0 1 d_M_gave_0 rfl rfl ?_
  refine g_i2l C0 d_M_gave_1 ?_
  refine g_lconst C0 (v := 0) d_M_gave_2 (by decide) ?_
  refine g_lconst C0 (v := 1) d_M_gave_3 (by decide) ?_
  obtain ⟨v4, z4, hE⟩ := bd_some hE
  refine g_calliP C0 nd_M [] rfl (sb_E_M) (runS C0 (m_M_in l K ad h (Int32.toInt64 a0) 0 1 z4) 3 ⟨t_1196, t_1197, t_97, t_1198⟩ cd_M_in (by decide) (sb_E_M) nd_E rfl rfl (Nat.le_of_ble_eq_true rfl) d_M_gave_4) ?_
  have hB := ite_some hE
  refine g_if_ne C0 (tgt := 13) d_M_gave_7 (by decide) (fun c_ => ?_) (fun c_ => ?_)
  · replace hE := hB.2 c_
    refine g_aload_n C0 0 d_M_gave_13 rfl rfl ?_
    obtain ⟨v14, z14, hE⟩ := bd_some hE
    refine g_calliP C0 nd_M [100, 101, 102, 103, 104, 105, 106, 107, 108, 109, 110, 111, 112, 113, 114, 115] rfl (sbW_self WM) (runV C0 (m_M_isNone l K ad h z14) 0 rfl ⟨t_1264, t_1266, t_51, t_97, t_1267⟩ cd_M_isNone (by decide) 0 rfl rfl (sbW_self WM) nd_M rfl rfl (Nat.le_of_ble_eq_true rfl) d_M_gave_14) ?_
    have hB := ite_some hE
    refine g_if_eq C0 (tgt := 23) d_M_gave_17 (by decide) (fun c_ => ?_) (fun c_ => ?_)
    · replace hE := hB.1 c_
      refine g_aload_n C0 0 d_M_gave_23 rfl rfl ?_
      obtain ⟨h24, z24, hE⟩ := bd_some hE
      refine g_callv C0 nd_M [100, 101, 102, 103, 104, 105, 106, 107, 108, 109, 110, 111, 112, 113, 114, 115] rfl (sbW_self WM) (runV C0 (m_M_findFits l K ad h N z24) 0 rfl ⟨t_1501, t_1503, t_81, t_97, t_1504⟩ cd_M_findFits (by decide) 0 rfl rfl (sbW_self WM) nd_M rfl rfl (Nat.le_of_ble_eq_true rfl) d_M_gave_24) ?_
      refine g_mx [100, 101, 102, 103, 104, 105, 106, 107, 108, 109, 110, 111, 112, 113, 114, 115] rfl ?_
      refine g_aload_n C0 0 d_M_gave_27 rfl rfl ?_
      refine g_geti C0 CK_11 27 (by decide) t_1117 0 rfl rfl d_M_gave_28 ?_
      have hB := ite_some hE
      refine g_if_ne C0 (tgt := 38) d_M_gave_31 (by decide) (fun c_ => ?_) (fun c_ => ?_)
      · replace hE := hB.2 c_
        refine g_aload_n C0 0 d_M_gave_38 rfl rfl ?_
        refine g_getr C0 CK_11 29 (by decide) t_1119 0 rfl rfl d_M_gave_39 ?_
        refine g_iload_n C0 1 d_M_gave_42 rfl rfl ?_
        obtain ⟨q43, v43, e43, hE⟩ := gA_some hE
        refine g_iald C0 13 rfl q43 d_M_gave_43 ?_
        refine g_top e43 ?_
        obtain rfl := Option.some.inj hE
        exact g_iret C0 hr d_M_gave_44
      · replace hE := hB.1 c_
        refine g_iconst C0 (v := 0) d_M_gave_34 (by decide) ?_
        refine g_goto C0 (tgt := 44) d_M_gave_35 (by decide) ?_
        obtain rfl := Option.some.inj hE
        exact g_iret C0 hr d_M_gave_44
    · replace hE := hB.2 c_
      refine g_ldc C0 (v := (-1000000003)) t_1296 d_M_gave_20 ?_
      obtain rfl := Option.some.inj hE
      exact g_iret C0 hr d_M_gave_22
  · replace hE := hB.1 c_
    refine g_ldc C0 (v := (-1000000002)) t_1199 d_M_gave_10 ?_
    obtain rfl := Option.some.inj hE
    exact g_iret C0 hr d_M_gave_12
theorem m_M_gave (l : Launch) (K : KT) (ad : Nat → Nat) (h : Hp) (N : Nat) (a0 : Int32) {res : Int32 × Hp} (hE : K_M_gave N a0 h = some res) : ConI l y_M_gave prog_13_method_81_code 2 (Option.some Jvm.ClassFile.FieldType.int) rm_M_gave K WM ad h [.ref (ad 100), .int a0] res.1 res.2 := fun sz =>
  con_start [(0, .ref (ad 100)), (1, .int a0)] (by decide +kernel) rfl (Nat.le_of_ble_eq_true rfl) (fun p e s m args below meth c C0 hr hnm hsz => w_M_gave C0 hr N a0 h hE)
abbrev y_M_write : MethodName := ⟨"CanoeSidesModel", "write", "(III)I"⟩
abbrev rm_M_write : Room := { frames := 2, cells := 0, slots := 0, locals := 47 }
theorem cd_M_write : cwd y_M_write 3 := by decide +kernel
theorem d_M_write_0 : decode prog_13_method_82_code 0 = .ok (.aload_n 0, 1) := by decide +kernel
theorem d_M_write_1 : decode prog_13_method_82_code 1 = .ok (.iload_n 2, 1) := by decide +kernel
theorem d_M_write_2 : decode prog_13_method_82_code 2 = .ok (.iload_n 3, 1) := by decide +kernel
theorem d_M_write_3 : decode prog_13_method_82_code 3 = .ok (.invokevirtual 157, 3) := by decide +kernel
theorem d_M_write_6 : decode prog_13_method_82_code 6 = .ok (.ifCond .ne 6, 3) := by decide +kernel
theorem d_M_write_9 : decode prog_13_method_82_code 9 = .ok (.ldc 160, 2) := by decide +kernel
theorem d_M_write_11 : decode prog_13_method_82_code 11 = .ok (.ireturn, 1) := by decide +kernel
theorem d_M_write_12 : decode prog_13_method_82_code 12 = .ok (.iload_n 1, 1) := by decide +kernel
theorem d_M_write_13 : decode prog_13_method_82_code 13 = .ok (.i2l, 1) := by decide +kernel
theorem d_M_write_14 : decode prog_13_method_82_code 14 = .ok (.lconst 0, 1) := by decide +kernel
theorem d_M_write_15 : decode prog_13_method_82_code 15 = .ok (.ldc2_w 270, 3) := by decide +kernel
theorem d_M_write_18 : decode prog_13_method_82_code 18 = .ok (.invokestatic 67, 3) := by decide +kernel
theorem d_M_write_21 : decode prog_13_method_82_code 21 = .ok (.ifCond .ne 6, 3) := by decide +kernel
theorem d_M_write_24 : decode prog_13_method_82_code 24 = .ok (.ldc 71, 2) := by decide +kernel
theorem d_M_write_26 : decode prog_13_method_82_code 26 = .ok (.ireturn, 1) := by decide +kernel
theorem d_M_write_27 : decode prog_13_method_82_code 27 = .ok (.aload_n 0, 1) := by decide +kernel
theorem d_M_write_28 : decode prog_13_method_82_code 28 = .ok (.getfield 137, 3) := by decide +kernel
theorem d_M_write_31 : decode prog_13_method_82_code 31 = .ok (.bipush 20, 2) := by decide +kernel
theorem d_M_write_33 : decode prog_13_method_82_code 33 = .ok (.if_icmp .ne 6, 3) := by decide +kernel
theorem d_M_write_36 : decode prog_13_method_82_code 36 = .ok (.ldc 75, 2) := by decide +kernel
theorem d_M_write_38 : decode prog_13_method_82_code 38 = .ok (.ireturn, 1) := by decide +kernel
theorem d_M_write_39 : decode prog_13_method_82_code 39 = .ok (.aload_n 0, 1) := by decide +kernel
theorem d_M_write_40 : decode prog_13_method_82_code 40 = .ok (.getfield 55, 3) := by decide +kernel
theorem d_M_write_43 : decode prog_13_method_82_code 43 = .ok (.aload_n 0, 1) := by decide +kernel
theorem d_M_write_44 : decode prog_13_method_82_code 44 = .ok (.getfield 137, 3) := by decide +kernel
theorem d_M_write_47 : decode prog_13_method_82_code 47 = .ok (.iload_n 1, 1) := by decide +kernel
theorem d_M_write_48 : decode prog_13_method_82_code 48 = .ok (.iastore, 1) := by decide +kernel
theorem d_M_write_49 : decode prog_13_method_82_code 49 = .ok (.aload_n 0, 1) := by decide +kernel
theorem d_M_write_50 : decode prog_13_method_82_code 50 = .ok (.getfield 58, 3) := by decide +kernel
theorem d_M_write_53 : decode prog_13_method_82_code 53 = .ok (.aload_n 0, 1) := by decide +kernel
theorem d_M_write_54 : decode prog_13_method_82_code 54 = .ok (.getfield 137, 3) := by decide +kernel
theorem d_M_write_57 : decode prog_13_method_82_code 57 = .ok (.iload_n 3, 1) := by decide +kernel
theorem d_M_write_58 : decode prog_13_method_82_code 58 = .ok (.aload_n 0, 1) := by decide +kernel
theorem d_M_write_59 : decode prog_13_method_82_code 59 = .ok (.getfield 20, 3) := by decide +kernel
theorem d_M_write_62 : decode prog_13_method_82_code 62 = .ok (.iconst 0, 1) := by decide +kernel
theorem d_M_write_63 : decode prog_13_method_82_code 63 = .ok (.iaload, 1) := by decide +kernel
theorem d_M_write_64 : decode prog_13_method_82_code 64 = .ok (.imul, 1) := by decide +kernel
theorem d_M_write_65 : decode prog_13_method_82_code 65 = .ok (.iload_n 2, 1) := by decide +kernel
theorem d_M_write_66 : decode prog_13_method_82_code 66 = .ok (.iadd, 1) := by decide +kernel
theorem d_M_write_67 : decode prog_13_method_82_code 67 = .ok (.iastore, 1) := by decide +kernel
theorem d_M_write_68 : decode prog_13_method_82_code 68 = .ok (.aload_n 0, 1) := by decide +kernel
theorem d_M_write_69 : decode prog_13_method_82_code 69 = .ok (.dup, 1) := by decide +kernel
theorem d_M_write_70 : decode prog_13_method_82_code 70 = .ok (.getfield 137, 3) := by decide +kernel
theorem d_M_write_73 : decode prog_13_method_82_code 73 = .ok (.iconst 1, 1) := by decide +kernel
theorem d_M_write_74 : decode prog_13_method_82_code 74 = .ok (.iadd, 1) := by decide +kernel
theorem d_M_write_75 : decode prog_13_method_82_code 75 = .ok (.putfield 137, 3) := by decide +kernel
theorem d_M_write_78 : decode prog_13_method_82_code 78 = .ok (.aload_n 0, 1) := by decide +kernel
theorem d_M_write_79 : decode prog_13_method_82_code 79 = .ok (.getfield 137, 3) := by decide +kernel
theorem d_M_write_82 : decode prog_13_method_82_code 82 = .ok (.ireturn, 1) := by decide +kernel
theorem w_M_write {p : Program} {l : Launch} {e : Env} {s : State} {m : MethodId} {args : Array Value} {below : List Frame} {meth : Method} {c : Code} {K : KT} {A : Nat → Prop} (C0 : Cx p s m args meth c prog_13_method_82_code "CanoeSidesModel" 4 K A) (hr : meth.sig.returnType = (Option.some Jvm.ClassFile.FieldType.int)) {ad : Nat → Nat} (a0 : Int32) (b0 : Int32) (c0 : Int32) (h : Hp) {res : Int32 × Hp} (hE : K_M_write a0 b0 c0 h = some res) : G p l e rm_M_write s m args below meth c K A WM 4 0 0 (QI s args below K A WM 0 0 ad res.1 res.2) 0 [(0, .ref (ad 100)), (1, .int a0), (2, .int b0), (3, .int c0)] [] ad h := by
  unfold K_M_write at hE
  refine g_aload_n C0 0 d_M_write_0 rfl rfl ?_
  refine g_iload_n C0 2 d_M_write_1 rfl rfl ?_
  refine g_iload_n C0 3 d_M_write_2 rfl rfl ?_
  obtain ⟨v3, z3, hE⟩ := bd_some hE
  refine g_calliP C0 nd_M [100, 101, 102, 103, 104, 105, 106, 107, 108, 109, 110, 111, 112, 113, 114, 115] rfl (sbW_self WM) (runV C0 (m_M_isSquare l K ad h b0 c0 z3) 2 rfl ⟨t_1279, t_1281, t_53, t_97, t_1282⟩ cd_M_isSquare (by decide) 0 rfl rfl (sbW_self WM) nd_M rfl rfl (Nat.le_of_ble_eq_true rfl) d_M_write_3) ?_
  have hB := ite_some hE
  refine g_if_ne C0 (tgt := 12) d_M_write_6 (by decide) (fun c_ => ?_) (fun c_ => ?_)
  · replace hE := hB.2 c_
    refine g_iload_n C0 1 d_M_write_12 rfl rfl ?_
    refine g_i2l C0 d_M_write_13 ?_
    refine g_lconst C0 (v := 0) d_M_write_14 (by decide) ?_
    refine g_ldc2 C0 (v := 15) t_1423 d_M_write_15 ?_
    obtain ⟨v18, z18, hE⟩ := bd_some hE
    refine g_calliP C0 nd_M [] rfl (sb_E_M) (runS C0 (m_M_in l K ad h (Int32.toInt64 a0) 0 15 z18) 3 ⟨t_1196, t_1197, t_97, t_1198⟩ cd_M_in (by decide) (sb_E_M) nd_E rfl rfl (Nat.le_of_ble_eq_true rfl) d_M_write_18) ?_
    have hB := ite_some hE
    refine g_if_ne C0 (tgt := 27) d_M_write_21 (by decide) (fun c_ => ?_) (fun c_ => ?_)
    · replace hE := hB.2 c_
      refine g_aload_n C0 0 d_M_write_27 rfl rfl ?_
      refine g_geti C0 CK_11 32 (by decide) t_1122 0 rfl rfl d_M_write_28 ?_
      refine g_bipush C0 (v := 20) d_M_write_31 (by decide) ?_
      have hB := ite_some hE
      refine g_icmp_ne C0 (tgt := 39) d_M_write_33 (by decide) (fun c_ => ?_) (fun c_ => ?_)
      · replace hE := hB.2 c_
        refine g_aload_n C0 0 d_M_write_39 rfl rfl ?_
        refine g_getr C0 CK_11 30 (by decide) t_1120 0 rfl rfl d_M_write_40 ?_
        refine g_aload_n C0 0 d_M_write_43 rfl rfl ?_
        refine g_geti C0 CK_11 32 (by decide) t_1122 0 rfl rfl d_M_write_44 ?_
        refine g_iload_n C0 1 d_M_write_47 rfl rfl ?_
        obtain ⟨q48, hE⟩ := sA_some hE
        obtain ⟨h48, e48, hE⟩ := nm_some hE
        refine g_iast C0 14 rfl nd_M q48 d_M_write_48 ?_
        refine g_heap e48 ?_
        refine g_aload_n C0 0 d_M_write_49 rfl rfl ?_
        refine g_getr C0 CK_11 31 (by decide) t_1121 0 rfl rfl d_M_write_50 ?_
        refine g_aload_n C0 0 d_M_write_53 rfl rfl ?_
        refine g_geti C0 CK_11 32 (by decide) t_1122 0 rfl rfl d_M_write_54 ?_
        refine g_iload_n C0 3 d_M_write_57 rfl rfl ?_
        refine g_aload_n C0 0 d_M_write_58 rfl rfl ?_
        refine g_getr C0 CK_11 3 (by decide) t_1093 0 rfl rfl d_M_write_59 ?_
        refine g_iconst C0 (v := 0) d_M_write_62 (by decide) ?_
        obtain ⟨q63, v63, e63, hE⟩ := gA_some hE
        refine g_iald C0 4 rfl q63 d_M_write_63 ?_
        refine g_top e63 ?_
        refine g_imul C0 d_M_write_64 ?_
        refine g_iload_n C0 2 d_M_write_65 rfl rfl ?_
        refine g_iadd C0 d_M_write_66 ?_
        obtain ⟨q67, hE⟩ := sA_some hE
        obtain ⟨h67, e67, hE⟩ := nm_some hE
        refine g_iast C0 15 rfl nd_M q67 d_M_write_67 ?_
        refine g_heap e67 ?_
        refine g_aload_n C0 0 d_M_write_68 rfl rfl ?_
        refine g_dup C0 d_M_write_69 rfl ?_
        refine g_geti C0 CK_11 32 (by decide) t_1122 0 rfl rfl d_M_write_70 ?_
        refine g_iconst C0 (v := 1) d_M_write_73 (by decide) ?_
        refine g_iadd C0 d_M_write_74 ?_
        obtain ⟨h75, e75, hE⟩ := nm_some hE
        refine g_puti C0 CK_11 CT_11 32 (by decide) t_1122 rfl (by decide +kernel) nd_M 0 rfl rfl d_M_write_75 ?_
        refine g_heap e75 ?_
        refine g_aload_n C0 0 d_M_write_78 rfl rfl ?_
        refine g_geti C0 CK_11 32 (by decide) t_1122 0 rfl rfl d_M_write_79 ?_
        obtain rfl := Option.some.inj hE
        exact g_iret C0 hr d_M_write_82
      · replace hE := hB.1 c_
        refine g_ldc C0 (v := (-1000000004)) t_1200 d_M_write_36 ?_
        obtain rfl := Option.some.inj hE
        exact g_iret C0 hr d_M_write_38
    · replace hE := hB.1 c_
      refine g_ldc C0 (v := (-1000000002)) t_1199 d_M_write_24 ?_
      obtain rfl := Option.some.inj hE
      exact g_iret C0 hr d_M_write_26
  · replace hE := hB.1 c_
    refine g_ldc C0 (v := (-1000000001)) t_1283 d_M_write_9 ?_
    obtain rfl := Option.some.inj hE
    exact g_iret C0 hr d_M_write_11
theorem m_M_write (l : Launch) (K : KT) (ad : Nat → Nat) (h : Hp) (a0 : Int32) (b0 : Int32) (c0 : Int32) {res : Int32 × Hp} (hE : K_M_write a0 b0 c0 h = some res) : ConI l y_M_write prog_13_method_82_code 4 (Option.some Jvm.ClassFile.FieldType.int) rm_M_write K WM ad h [.ref (ad 100), .int a0, .int b0, .int c0] res.1 res.2 := fun sz =>
  con_start [(0, .ref (ad 100)), (1, .int a0), (2, .int b0), (3, .int c0)] (by decide +kernel) rfl (Nat.le_of_ble_eq_true rfl) (fun p e s m args below meth c C0 hr hnm hsz => w_M_write C0 hr a0 b0 c0 h hE)
abbrev y_M_judge : MethodName := ⟨"CanoeSidesModel", "judge", "()I"⟩
abbrev rm_M_judge : Room := { frames := 6, cells := 0, slots := 0, locals := 147 }
theorem cd_M_judge : cwd y_M_judge 0 := by decide +kernel
theorem d_M_judge_0 : decode prog_13_method_83_code 0 = .ok (.aload_n 0, 1) := by decide +kernel
theorem d_M_judge_1 : decode prog_13_method_83_code 1 = .ok (.invokevirtual 143, 3) := by decide +kernel
theorem d_M_judge_4 : decode prog_13_method_83_code 4 = .ok (.ifCond .eq 6, 3) := by decide +kernel
theorem d_M_judge_7 : decode prog_13_method_83_code 7 = .ok (.ldc 215, 2) := by decide +kernel
theorem d_M_judge_9 : decode prog_13_method_83_code 9 = .ok (.ireturn, 1) := by decide +kernel
theorem d_M_judge_10 : decode prog_13_method_83_code 10 = .ok (.aload_n 0, 1) := by decide +kernel
theorem d_M_judge_11 : decode prog_13_method_83_code 11 = .ok (.iconst 0, 1) := by decide +kernel
theorem d_M_judge_12 : decode prog_13_method_83_code 12 = .ok (.putfield 166, 3) := by decide +kernel
theorem d_M_judge_15 : decode prog_13_method_83_code 15 = .ok (.aload_n 0, 1) := by decide +kernel
theorem d_M_judge_16 : decode prog_13_method_83_code 16 = .ok (.invokevirtual 265, 3) := by decide +kernel
theorem d_M_judge_19 : decode prog_13_method_83_code 19 = .ok (.istore_n 1, 1) := by decide +kernel
theorem d_M_judge_20 : decode prog_13_method_83_code 20 = .ok (.iconst 0, 1) := by decide +kernel
theorem d_M_judge_21 : decode prog_13_method_83_code 21 = .ok (.istore_n 2, 1) := by decide +kernel
theorem d_M_judge_22 : decode prog_13_method_83_code 22 = .ok (.iload_n 2, 1) := by decide +kernel
theorem d_M_judge_23 : decode prog_13_method_83_code 23 = .ok (.aload_n 0, 1) := by decide +kernel
theorem d_M_judge_24 : decode prog_13_method_83_code 24 = .ok (.getfield 137, 3) := by decide +kernel
theorem d_M_judge_27 : decode prog_13_method_83_code 27 = .ok (.if_icmp .ge 51, 3) := by decide +kernel
theorem d_M_judge_30 : decode prog_13_method_83_code 30 = .ok (.aload_n 0, 1) := by decide +kernel
theorem d_M_judge_31 : decode prog_13_method_83_code 31 = .ok (.iload_n 1, 1) := by decide +kernel
theorem d_M_judge_32 : decode prog_13_method_83_code 32 = .ok (.aload_n 0, 1) := by decide +kernel
theorem d_M_judge_33 : decode prog_13_method_83_code 33 = .ok (.getfield 55, 3) := by decide +kernel
theorem d_M_judge_36 : decode prog_13_method_83_code 36 = .ok (.iload_n 2, 1) := by decide +kernel
theorem d_M_judge_37 : decode prog_13_method_83_code 37 = .ok (.iaload, 1) := by decide +kernel
theorem d_M_judge_38 : decode prog_13_method_83_code 38 = .ok (.iconst 4, 1) := by decide +kernel
theorem d_M_judge_39 : decode prog_13_method_83_code 39 = .ok (.idiv, 1) := by decide +kernel
theorem d_M_judge_40 : decode prog_13_method_83_code 40 = .ok (.aload_n 0, 1) := by decide +kernel
theorem d_M_judge_41 : decode prog_13_method_83_code 41 = .ok (.getfield 55, 3) := by decide +kernel
theorem d_M_judge_44 : decode prog_13_method_83_code 44 = .ok (.iload_n 2, 1) := by decide +kernel
theorem d_M_judge_45 : decode prog_13_method_83_code 45 = .ok (.iaload, 1) := by decide +kernel
theorem d_M_judge_46 : decode prog_13_method_83_code 46 = .ok (.iconst 4, 1) := by decide +kernel
theorem d_M_judge_47 : decode prog_13_method_83_code 47 = .ok (.irem, 1) := by decide +kernel
theorem d_M_judge_48 : decode prog_13_method_83_code 48 = .ok (.invokevirtual 247, 3) := by decide +kernel
theorem d_M_judge_51 : decode prog_13_method_83_code 51 = .ok (.istore_n 1, 1) := by decide +kernel
theorem d_M_judge_52 : decode prog_13_method_83_code 52 = .ok (.iload_n 1, 1) := by decide +kernel
theorem d_M_judge_53 : decode prog_13_method_83_code 53 = .ok (.aload_n 0, 1) := by decide +kernel
theorem d_M_judge_54 : decode prog_13_method_83_code 54 = .ok (.invokevirtual 234, 3) := by decide +kernel
theorem d_M_judge_57 : decode prog_13_method_83_code 57 = .ok (.idiv, 1) := by decide +kernel
theorem d_M_judge_58 : decode prog_13_method_83_code 58 = .ok (.bipush 8, 2) := by decide +kernel
theorem d_M_judge_60 : decode prog_13_method_83_code 60 = .ok (.idiv, 1) := by decide +kernel
theorem d_M_judge_61 : decode prog_13_method_83_code 61 = .ok (.aload_n 0, 1) := by decide +kernel
theorem d_M_judge_62 : decode prog_13_method_83_code 62 = .ok (.getfield 58, 3) := by decide +kernel
theorem d_M_judge_65 : decode prog_13_method_83_code 65 = .ok (.iload_n 2, 1) := by decide +kernel
theorem d_M_judge_66 : decode prog_13_method_83_code 66 = .ok (.iaload, 1) := by decide +kernel
theorem d_M_judge_67 : decode prog_13_method_83_code 67 = .ok (.if_icmp .eq 5, 3) := by decide +kernel
theorem d_M_judge_70 : decode prog_13_method_83_code 70 = .ok (.iload_n 2, 1) := by decide +kernel
theorem d_M_judge_71 : decode prog_13_method_83_code 71 = .ok (.ireturn, 1) := by decide +kernel
theorem d_M_judge_72 : decode prog_13_method_83_code 72 = .ok (.iinc 2 1, 3) := by decide +kernel
theorem d_M_judge_75 : decode prog_13_method_83_code 75 = .ok (.goto (-53), 3) := by decide +kernel
theorem d_M_judge_78 : decode prog_13_method_83_code 78 = .ok (.iconst (-1), 1) := by decide +kernel
theorem d_M_judge_79 : decode prog_13_method_83_code 79 = .ok (.ireturn, 1) := by decide +kernel
theorem w_M_judge_L22 {p : Program} {l : Launch} {e : Env} {s : State} {m : MethodId} {args : Array Value} {below : List Frame} {meth : Method} {c : Code} {K : KT} {A : Nat → Prop} {Q : State → Prop} (C0 : Cx p s m args meth c prog_13_method_83_code "CanoeSidesModel" 3 K A) (hr : meth.sig.returnType = (Option.some Jvm.ClassFile.FieldType.int)) {ad : Nat → Nat} (N : Nat) (x1 : Int32) (x2 : Int32) (h : Hp) {x_ : (Int32 × Int32 × Hp) ⊕ (Int32 × Hp) ⊕ (Hp)} (hE : K_M_judge_L22 N x1 x2 h = some x_) (hk1 : ∀ z_, x_ = .inl z_ → G p l e rm_M_judge s m args below meth c K A WM 3 0 0 Q 22 [(0, .ref (ad 100)), (1, .int z_.1), (2, .int z_.2.1)] [] ad z_.2.2) (hk2 : ∀ r_, x_ = .inr (.inl r_) → Q = (QI s args below K A WM 0 0 ad r_.1 r_.2)) (hk3 : ∀ z_, x_ = .inr (.inr z_) → G p l e rm_M_judge s m args below meth c K A WM 3 0 0 Q 78 [] [] ad z_) : G p l e rm_M_judge s m args below meth c K A WM 3 0 0 Q 22 [(0, .ref (ad 100)), (1, .int x1), (2, .int x2)] [] ad h := by
  unfold K_M_judge_L22 at hE
  refine g_iload_n C0 2 d_M_judge_22 rfl rfl ?_
  refine g_aload_n C0 0 d_M_judge_23 rfl rfl ?_
  refine g_geti C0 CK_11 32 (by decide) t_1122 0 rfl rfl d_M_judge_24 ?_
  have hB := ite_some hE
  refine g_icmp_ge C0 (tgt := 78) d_M_judge_27 (by decide) (fun c_ => ?_) (fun c_ => ?_)
  · replace hE := hB.1 c_
    refine g_sub [] (L' := []) rfl ?_
    exact hk3 _ (Option.some.inj hE).symm
  · replace hE := hB.2 c_
    refine g_aload_n C0 0 d_M_judge_30 rfl rfl ?_
    refine g_iload_n C0 1 d_M_judge_31 rfl rfl ?_
    refine g_aload_n C0 0 d_M_judge_32 rfl rfl ?_
    refine g_getr C0 CK_11 30 (by decide) t_1120 0 rfl rfl d_M_judge_33 ?_
    refine g_iload_n C0 2 d_M_judge_36 rfl rfl ?_
    obtain ⟨q37, v37, e37, hE⟩ := gA_some hE
    refine g_iald C0 14 rfl q37 d_M_judge_37 ?_
    refine g_top e37 ?_
    refine g_iconst C0 (v := 4) d_M_judge_38 (by decide) ?_
    refine g_idiv C0 d_M_judge_39 (by decide) ?_
    refine g_aload_n C0 0 d_M_judge_40 rfl rfl ?_
    refine g_getr C0 CK_11 30 (by decide) t_1120 0 rfl rfl d_M_judge_41 ?_
    refine g_iload_n C0 2 d_M_judge_44 rfl rfl ?_
    obtain ⟨q45, v45, e45, hE⟩ := gA_some hE
    refine g_iald C0 14 rfl q45 d_M_judge_45 ?_
    refine g_top e45 ?_
    refine g_iconst C0 (v := 4) d_M_judge_46 (by decide) ?_
    refine g_irem C0 d_M_judge_47 (by decide) ?_
    obtain ⟨v48, h48, z48, hE⟩ := bd2_some hE
    refine g_calli C0 nd_M [100, 101, 102, 103, 104, 105, 106, 107, 108, 109, 110, 111, 112, 113, 114, 115] rfl (sbW_self WM) (runV C0 (m_M_after l K ad h N x1 (v37 / 4) (rm32 v45 4) z48) 3 rfl ⟨t_1398, t_1400, t_69, t_97, t_1401⟩ cd_M_after (by decide) 0 rfl rfl (sbW_self WM) nd_M rfl rfl (Nat.le_of_ble_eq_true rfl) d_M_judge_48) ?_
    refine g_mx [100, 101, 102, 103, 104, 105, 106, 107, 108, 109, 110, 111, 112, 113, 114, 115] rfl ?_
    refine g_istore_n C0 [(1, .int v48), (0, .ref (ad 100)), (2, .int x2)] d_M_judge_51 rfl (by decide) rfl ?_
    refine g_iload_n C0 0 d_M_judge_52 rfl rfl ?_
    refine g_aload_n C0 1 d_M_judge_53 rfl rfl ?_
    obtain ⟨v54, z54, hE⟩ := bd_some hE
    refine g_calliP C0 nd_M [100, 101, 102, 103, 104, 105, 106, 107, 108, 109, 110, 111, 112, 113, 114, 115] rfl (sbW_self WM) (runV C0 (m_M_times l K ad h48 z54) 0 rfl ⟨t_1385, t_1387, t_66, t_97, t_1388⟩ cd_M_times (by decide) 0 rfl rfl (sbW_self WM) nd_M rfl rfl (Nat.le_of_ble_eq_true rfl) d_M_judge_54) ?_
    obtain ⟨q57, hE⟩ := dz_some hE
    refine g_idiv C0 d_M_judge_57 q57 ?_
    refine g_bipush C0 (v := 8) d_M_judge_58 (by decide) ?_
    refine g_idiv C0 d_M_judge_60 (by decide) ?_
    refine g_aload_n C0 1 d_M_judge_61 rfl rfl ?_
    refine g_getr C0 CK_11 31 (by decide) t_1121 0 rfl rfl d_M_judge_62 ?_
    refine g_iload_n C0 2 d_M_judge_65 rfl rfl ?_
    obtain ⟨q66, v66, e66, hE⟩ := gA_some hE
    refine g_iald C0 15 rfl q66 d_M_judge_66 ?_
    refine g_top e66 ?_
    have hB := ite_some hE
    refine g_icmp_eq C0 (tgt := 72) d_M_judge_67 (by decide) (fun c_ => ?_) (fun c_ => ?_)
    · replace hE := hB.1 c_
      obtain ⟨v72, e72, hE⟩ := nm_some hE
      refine g_iinc C0 2 [(2, .int v72), (1, .int v48), (0, .ref (ad 100))] d_M_judge_72 rfl (by rw [e72]; rfl) (by decide) rfl ?_
      refine g_goto C0 (tgt := 22) d_M_judge_75 (by decide) ?_
      refine g_sub [2, 1, 0] (L' := [(0, .ref (ad 100)), (1, .int v48), (2, .int v72)]) rfl ?_
      exact hk1 _ (Option.some.inj hE).symm
    · replace hE := hB.2 c_
      refine g_iload_n C0 2 d_M_judge_70 rfl rfl ?_
      have hq := hk2 _ (Option.some.inj hE).symm
      rw [hq]
      exact g_iret C0 hr d_M_judge_71
theorem w_M_judge {p : Program} {l : Launch} {e : Env} {s : State} {m : MethodId} {args : Array Value} {below : List Frame} {meth : Method} {c : Code} {K : KT} {A : Nat → Prop} (C0 : Cx p s m args meth c prog_13_method_83_code "CanoeSidesModel" 3 K A) (hr : meth.sig.returnType = (Option.some Jvm.ClassFile.FieldType.int)) {ad : Nat → Nat} (N : Nat) (h : Hp) {res : Int32 × Hp} (hE : K_M_judge N h = some res) : G p l e rm_M_judge s m args below meth c K A WM 3 0 0 (QI s args below K A WM 0 0 ad res.1 res.2) 0 [(0, .ref (ad 100))] [] ad h := by
  unfold K_M_judge at hE
  refine g_aload_n C0 0 d_M_judge_0 rfl rfl ?_
  obtain ⟨v1, z1, hE⟩ := bd_some hE
  refine g_calliP C0 nd_M [100, 101, 102, 103, 104, 105, 106, 107, 108, 109, 110, 111, 112, 113, 114, 115] rfl (sbW_self WM) (runV C0 (m_M_isNone l K ad h z1) 0 rfl ⟨t_1264, t_1266, t_51, t_97, t_1267⟩ cd_M_isNone (by decide) 0 rfl rfl (sbW_self WM) nd_M rfl rfl (Nat.le_of_ble_eq_true rfl) d_M_judge_1) ?_
  have hB := ite_some hE
  refine g_if_eq C0 (tgt := 10) d_M_judge_4 (by decide) (fun c_ => ?_) (fun c_ => ?_)
  · replace hE := hB.1 c_
    refine g_aload_n C0 0 d_M_judge_10 rfl rfl ?_
    refine g_iconst C0 (v := 0) d_M_judge_11 (by decide) ?_
    obtain ⟨h12, e12, hE⟩ := nm_some hE
    refine g_puti C0 CK_11 CT_11 12 (by decide) t_1102 rfl (by decide +kernel) nd_M 0 rfl rfl d_M_judge_12 ?_
    refine g_heap e12 ?_
    refine g_aload_n C0 0 d_M_judge_15 rfl rfl ?_
    obtain ⟨v16, z16, hE⟩ := bd_some hE
    refine g_calliP C0 nd_M [100, 101, 102, 103, 104, 105, 106, 107, 108, 109, 110, 111, 112, 113, 114, 115] rfl (sbW_self WM) (runV C0 (m_M_stateNow l K ad h12 z16) 0 rfl ⟨t_1406, t_1408, t_71, t_97, t_1409⟩ cd_M_stateNow (by decide) 0 rfl rfl (sbW_self WM) nd_M rfl rfl (Nat.le_of_ble_eq_true rfl) d_M_judge_16) ?_
    refine g_istore_n C0 [(1, .int v16), (0, .ref (ad 100))] d_M_judge_19 rfl (by decide) rfl ?_
    refine g_iconst C0 (v := 0) d_M_judge_20 (by decide) ?_
    refine g_istore_n C0 [(2, .int 0), (1, .int v16), (0, .ref (ad 100))] d_M_judge_21 rfl (by decide) rfl ?_
    refine g_sub [2, 1, 0] (L' := [(0, .ref (ad 100)), (1, .int v16), (2, .int 0)]) rfl ?_
    obtain ⟨t22, z22, hE⟩ := bd_some hE
    refine loopG (fun z_ : Int32 × Int32 × Hp => K_M_judge_L22 N z_.1 z_.2.1 z_.2.2) (fun z_ : Int32 × Int32 × Hp => G p l e rm_M_judge s m args below meth c K A WM 3 0 0 _ 22 [(0, .ref (ad 100)), (1, .int z_.1), (2, .int z_.2.1)] [] ad z_.2.2) (fun z_ : (Int32 × Hp) ⊕ (Hp) => (∀ r_, z_ = .inl r_ → _ = (QI s args below K A WM 0 0 ad r_.1 r_.2)) ∧ (∀ y_, z_ = .inr y_ → G p l e rm_M_judge s m args below meth c K A WM 3 0 0 _ 78 [] [] ad y_)) (fun z_ x_ hz k1 k2 => w_M_judge_L22 C0 hr N z_.1 z_.2.1 z_.2.2 hz k1 (fun r_ hr_ => (k2 _ hr_).1 _ rfl) (fun y_ hy_ => (k2 _ hy_).2 _ rfl)) _ _ _ z22 ?_
    refine ⟨fun r_ e_ => ?_, fun t22x e_ => ?_⟩
    · subst e_
      replace hE := el_inl hE
      exact Option.some.inj hE ▸ rfl
    · subst e_
      replace hE := el_inr hE
      try dsimp only
      refine g_iconst C0 (v := (-1)) d_M_judge_78 (by decide) ?_
      obtain rfl := Option.some.inj hE
      exact g_iret C0 hr d_M_judge_79
  · replace hE := hB.2 c_
    refine g_ldc C0 (v := (-1000000003)) t_1296 d_M_judge_7 ?_
    obtain rfl := Option.some.inj hE
    exact g_iret C0 hr d_M_judge_9
theorem m_M_judge (l : Launch) (K : KT) (ad : Nat → Nat) (h : Hp) (N : Nat) {res : Int32 × Hp} (hE : K_M_judge N h = some res) : ConI l y_M_judge prog_13_method_83_code 3 (Option.some Jvm.ClassFile.FieldType.int) rm_M_judge K WM ad h [.ref (ad 100)] res.1 res.2 := fun sz =>
  con_start [(0, .ref (ad 100))] (by decide +kernel) rfl (Nat.le_of_ble_eq_true rfl) (fun p e s m args below meth c C0 hr hnm hsz => w_M_judge C0 hr N h hE)
