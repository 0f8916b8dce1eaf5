/-! walks, by program -/
abbrev y_C_judge : MethodName := ⟨"CanoeSides", "judge", "()I"⟩
abbrev rm_C_judge : Room := { frames := 4, cells := 0, slots := 0, locals := 97 }
theorem cd_C_judge : cwd y_C_judge 0 := by decide +kernel
theorem d_C_judge_0 : decode prog_1_method_28_code 0 = .ok (.aload_n 0, 1) := by decide +kernel
theorem d_C_judge_1 : decode prog_1_method_28_code 1 = .ok (.invokevirtual 143, 3) := by decide +kernel
theorem d_C_judge_4 : decode prog_1_method_28_code 4 = .ok (.ifCond .eq 6, 3) := by decide +kernel
theorem d_C_judge_7 : decode prog_1_method_28_code 7 = .ok (.ldc 147, 2) := by decide +kernel
theorem d_C_judge_9 : decode prog_1_method_28_code 9 = .ok (.ireturn, 1) := by decide +kernel
theorem d_C_judge_10 : decode prog_1_method_28_code 10 = .ok (.aload_n 0, 1) := by decide +kernel
theorem d_C_judge_11 : decode prog_1_method_28_code 11 = .ok (.getfield 67, 3) := by decide +kernel
theorem d_C_judge_14 : decode prog_1_method_28_code 14 = .ok (.aload_n 0, 1) := by decide +kernel
theorem d_C_judge_15 : decode prog_1_method_28_code 15 = .ok (.getfield 39, 3) := by decide +kernel
theorem d_C_judge_18 : decode prog_1_method_28_code 18 = .ok (.aload_n 0, 1) := by decide +kernel
theorem d_C_judge_19 : decode prog_1_method_28_code 19 = .ok (.invokevirtual 158, 3) := by decide +kernel
theorem d_C_judge_22 : decode prog_1_method_28_code 22 = .ok (.invokevirtual 268, 3) := by decide +kernel
theorem d_C_judge_25 : decode prog_1_method_28_code 25 = .ok (.ireturn, 1) := by decide +kernel
theorem w_C_judge {p : Program} {l : Launch} {e : Env} {s : State} {m : MethodId} {args : Array Value} {below : List Frame} {meth : Method} {c : Code} {K : KT} {A : Nat → Prop} (C0 : Cx p s m args meth c prog_1_method_28_code "CanoeSides" 1 K A) (hr : meth.sig.returnType = (Option.some Jvm.ClassFile.FieldType.int)) {ad : Nat → Nat} (N : Nat) (h : Hp) {res : Int32} (hE : K_C_judge N h = some res) : G p l e rm_C_judge s m args below meth c K A WC 1 0 0 (QI s args below K A WC 0 0 ad res h) 0 [(0, .ref (ad 0))] [] ad h := by
  unfold K_C_judge at hE
  refine g_aload_n C0 0 d_C_judge_0 rfl rfl ?_
  obtain ⟨v1, z1, hE⟩ := bd_some hE
  refine g_calliP C0 nd_C [0, 2, 10, 11, 12, 15, 16, 17, 20, 21, 22, 25, 26, 27, 30, 33, 35, 36, 40, 41, 42, 43, 45, 46, 47, 48, 49, 55, 56, 60, 61, 62, 63, 64] rfl (sbW_self WC) (runV C0 (m_C_noSquares l K ad h z1) 0 rfl ⟨t_755, t_757, t_18, t_85, t_758⟩ cd_C_noSquares (by decide) 0 rfl rfl (sbW_self WC) nd_C rfl rfl (Nat.le_of_ble_eq_true rfl) d_C_judge_1) ?_
  have hB := ite_some hE
  refine g_if_eq C0 (tgt := 10) d_C_judge_4 (by decide) (fun c_ => ?_) (fun c_ => ?_)
  · replace hE := hB.1 c_
    refine g_aload_n C0 0 d_C_judge_10 rfl rfl ?_
    refine g_getr C0 CK_10 10 (by decide) t_462 0 rfl rfl d_C_judge_11 ?_
    refine g_aload_n C0 0 d_C_judge_14 rfl rfl ?_
    refine g_getr C0 CK_10 5 (by decide) t_457 0 rfl rfl d_C_judge_15 ?_
    refine g_aload_n C0 0 d_C_judge_18 rfl rfl ?_
    obtain ⟨v19, z19, hE⟩ := bd_some hE
    refine g_calliP C0 nd_C [0, 2, 10, 11, 12, 15, 16, 17, 20, 21, 22, 25, 26, 27, 30, 33, 35, 36, 40, 41, 42, 43, 45, 46, 47, 48, 49, 55, 56, 60, 61, 62, 63, 64] rfl (sbW_self WC) (runV C0 (m_C_moment l K ad h z19) 0 rfl ⟨t_764, t_766, t_20, t_85, t_767⟩ cd_C_moment (by decide) 0 rfl rfl (sbW_self WC) nd_C rfl rfl (Nat.le_of_ble_eq_true rfl) d_C_judge_19) ?_
    obtain ⟨v22, z22, hE⟩ := bd_some hE
    refine g_calliP C0 nd_C [60, 61, 62, 63, 64, 20, 21, 22, 15, 16, 17] rfl (sb_Lines_C) (runV C0 (m_Lines_firstWrong l K ad h N v19 z22) 2 rfl ⟨t_1054, t_1055, t_1056, t_92, t_1057⟩ cd_Lines_firstWrong (by decide) 29 rfl rfl (sb_Lines_C) nd_Lines rfl rfl (Nat.le_of_ble_eq_true rfl) d_C_judge_22) ?_
    obtain rfl := Option.some.inj hE
    exact g_iret C0 hr d_C_judge_25
  · replace hE := hB.2 c_
    refine g_ldc C0 (v := (-1000000003)) t_759 d_C_judge_7 ?_
    obtain rfl := Option.some.inj hE
    exact g_iret C0 hr d_C_judge_9
theorem m_C_judge (l : Launch) (K : KT) (ad : Nat → Nat) (h : Hp) (N : Nat) {res : Int32} (hE : K_C_judge N h = some res) : ConI l y_C_judge prog_1_method_28_code 1 (Option.some Jvm.ClassFile.FieldType.int) rm_C_judge K WC ad h [.ref (ad 0)] res h := fun sz =>
  con_start [(0, .ref (ad 0))] (by decide +kernel) rfl (Nat.le_of_ble_eq_true rfl) (fun p e s m args below meth c C0 hr hnm hsz => w_C_judge C0 hr N h hE)
abbrev y_C_tear : MethodName := ⟨"CanoeSides", "tear", "()I"⟩
abbrev rm_C_tear : Room := { frames := 1, cells := 0, slots := 0, locals := 20 }
theorem cd_C_tear : cwd y_C_tear 0 := by decide +kernel
theorem d_C_tear_0 : decode prog_1_method_29_code 0 = .ok (.aload_n 0, 1) := by decide +kernel
theorem d_C_tear_1 : decode prog_1_method_29_code 1 = .ok (.getfield 67, 3) := by decide +kernel
theorem d_C_tear_4 : decode prog_1_method_29_code 4 = .ok (.getfield 245, 3) := by decide +kernel
theorem d_C_tear_7 : decode prog_1_method_29_code 7 = .ok (.aload_n 0, 1) := by decide +kernel
theorem d_C_tear_8 : decode prog_1_method_29_code 8 = .ok (.getfield 67, 3) := by decide +kernel
theorem d_C_tear_11 : decode prog_1_method_29_code 11 = .ok (.getfield 265, 3) := by decide +kernel
theorem d_C_tear_14 : decode prog_1_method_29_code 14 = .ok (.iadd, 1) := by decide +kernel
theorem d_C_tear_15 : decode prog_1_method_29_code 15 = .ok (.istore_n 1, 1) := by decide +kernel
theorem d_C_tear_16 : decode prog_1_method_29_code 16 = .ok (.aload_n 0, 1) := by decide +kernel
theorem d_C_tear_17 : decode prog_1_method_29_code 17 = .ok (.getfield 67, 3) := by decide +kernel
theorem d_C_tear_20 : decode prog_1_method_29_code 20 = .ok (.invokevirtual 272, 3) := by decide +kernel
theorem d_C_tear_23 : decode prog_1_method_29_code 23 = .ok (.iload_n 1, 1) := by decide +kernel
theorem d_C_tear_24 : decode prog_1_method_29_code 24 = .ok (.ireturn, 1) := by decide +kernel
theorem w_C_tear {p : Program} {l : Launch} {e : Env} {s : State} {m : MethodId} {args : Array Value} {below : List Frame} {meth : Method} {c : Code} {K : KT} {A : Nat → Prop} (C0 : Cx p s m args meth c prog_1_method_29_code "CanoeSides" 2 K A) (hr : meth.sig.returnType = (Option.some Jvm.ClassFile.FieldType.int)) {ad : Nat → Nat} (h : Hp) {res : Int32 × Hp} (hE : K_C_tear h = some res) : G p l e rm_C_tear s m args below meth c K A WC 2 0 0 (QI s args below K A WC 0 0 ad res.1 res.2) 0 [(0, .ref (ad 0))] [] ad h := by
  unfold K_C_tear at hE
  refine g_aload_n C0 0 d_C_tear_0 rfl rfl ?_
  refine g_getr C0 CK_10 10 (by decide) t_462 0 rfl rfl d_C_tear_1 ?_
  refine g_getiN C0 CK_4 4 (by decide) t_276 29 rfl rfl d_C_tear_4 ?_
  refine g_aload_n C0 0 d_C_tear_7 rfl rfl ?_
  refine g_getr C0 CK_10 10 (by decide) t_462 0 rfl rfl d_C_tear_8 ?_
  refine g_getiN C0 CK_4 5 (by decide) t_278 29 rfl rfl d_C_tear_11 ?_
  refine g_iadd C0 d_C_tear_14 ?_
  obtain ⟨v15, e15, hE⟩ := nm_some hE
  refine g_top e15 ?_
  refine g_istore_n C0 [(1, .int v15), (0, .ref (ad 0))] d_C_tear_15 rfl (by decide) rfl ?_
  refine g_aload_n C0 1 d_C_tear_16 rfl rfl ?_
  refine g_getr C0 CK_10 10 (by decide) t_462 0 rfl rfl d_C_tear_17 ?_
  obtain ⟨h20, z20, hE⟩ := bd_some hE
  refine g_callv C0 nd_C [60, 61, 62, 63, 64, 20, 21, 22, 15, 16, 17] rfl (sb_Lines_C) (runV C0 (m_Lines_empty l K ad h z20) 0 rfl ⟨t_436, t_437, t_438, t_92, t_439⟩ cd_Lines_empty (by decide) 29 rfl rfl (sb_Lines_C) nd_Lines rfl rfl (Nat.le_of_ble_eq_true rfl) d_C_tear_20) ?_
  obtain ⟨h20m, e20, hE⟩ := nm_some hE
  refine g_heap e20 ?_
  refine g_iload_n C0 0 d_C_tear_23 rfl rfl ?_
  obtain rfl := Option.some.inj hE
  exact g_iret C0 hr d_C_tear_24
theorem m_C_tear (l : Launch) (K : KT) (ad : Nat → Nat) (h : Hp) {res : Int32 × Hp} (hE : K_C_tear h = some res) : ConI l y_C_tear prog_1_method_29_code 2 (Option.some Jvm.ClassFile.FieldType.int) rm_C_tear K WC ad h [.ref (ad 0)] res.1 res.2 := fun sz =>
  con_start [(0, .ref (ad 0))] (by decide +kernel) rfl (Nat.le_of_ble_eq_true rfl) (fun p e s m args below meth c C0 hr hnm hsz => w_C_tear C0 hr h hE)
abbrev y_C_seed : MethodName := ⟨"CanoeSides", "seed", "(I)I"⟩
abbrev rm_C_seed : Room := { frames := 1, cells := 0, slots := 0, locals := 22 }
theorem cd_C_seed : cwd y_C_seed 1 := by decide +kernel
theorem d_C_seed_0 : decode prog_1_method_30_code 0 = .ok (.iload_n 1, 1) := by decide +kernel
theorem d_C_seed_1 : decode prog_1_method_30_code 1 = .ok (.iconst 0, 1) := by decide +kernel
theorem d_C_seed_2 : decode prog_1_method_30_code 2 = .ok (.ldc_w 275, 3) := by decide +kernel
theorem d_C_seed_5 : decode prog_1_method_30_code 5 = .ok (.invokestatic 96, 3) := by decide +kernel
theorem d_C_seed_8 : decode prog_1_method_30_code 8 = .ok (.ifCond .eq 6, 3) := by decide +kernel
theorem d_C_seed_11 : decode prog_1_method_30_code 11 = .ok (.ldc 100, 2) := by decide +kernel
theorem d_C_seed_13 : decode prog_1_method_30_code 13 = .ok (.ireturn, 1) := by decide +kernel
theorem d_C_seed_14 : decode prog_1_method_30_code 14 = .ok (.aload_n 0, 1) := by decide +kernel
theorem d_C_seed_15 : decode prog_1_method_30_code 15 = .ok (.getfield 49, 3) := by decide +kernel
theorem d_C_seed_18 : decode prog_1_method_30_code 18 = .ok (.getfield 276, 3) := by decide +kernel
theorem d_C_seed_21 : decode prog_1_method_30_code 21 = .ok (.istore_n 2, 1) := by decide +kernel
theorem d_C_seed_22 : decode prog_1_method_30_code 22 = .ok (.aload_n 0, 1) := by decide +kernel
theorem d_C_seed_23 : decode prog_1_method_30_code 23 = .ok (.getfield 49, 3) := by decide +kernel
theorem d_C_seed_26 : decode prog_1_method_30_code 26 = .ok (.iload_n 1, 1) := by decide +kernel
theorem d_C_seed_27 : decode prog_1_method_30_code 27 = .ok (.putfield 276, 3) := by decide +kernel
theorem d_C_seed_30 : decode prog_1_method_30_code 30 = .ok (.iload_n 2, 1) := by decide +kernel
theorem d_C_seed_31 : decode prog_1_method_30_code 31 = .ok (.ireturn, 1) := by decide +kernel
theorem w_C_seed {p : Program} {l : Launch} {e : Env} {s : State} {m : MethodId} {args : Array Value} {below : List Frame} {meth : Method} {c : Code} {K : KT} {A : Nat → Prop} (C0 : Cx p s m args meth c prog_1_method_30_code "CanoeSides" 3 K A) (hr : meth.sig.returnType = (Option.some Jvm.ClassFile.FieldType.int)) {ad : Nat → Nat} (a0 : Int32) (h : Hp) {res : Int32 × Hp} (hE : K_C_seed a0 h = some res) : G p l e rm_C_seed s m args below meth c K A WC 3 0 0 (QI s args below K A WC 0 0 ad res.1 res.2) 0 [(0, .ref (ad 0)), (1, .int a0)] [] ad h := by
  unfold K_C_seed at hE
  refine g_iload_n C0 1 d_C_seed_0 rfl rfl ?_
  refine g_iconst C0 (v := 0) d_C_seed_1 (by decide) ?_
  refine g_ldcw C0 (v := 2147483647) t_1066 d_C_seed_2 ?_
  obtain ⟨v5, z5, hE⟩ := bd_some hE
  refine g_calliP C0 nd_C [] rfl (sb_E_C) (runS C0 (m_C_isOutside l K ad h a0 0 2147483647 z5) 3 ⟨t_499, t_500, t_85, t_501⟩ cd_C_isOutside (by decide) (sb_E_C) nd_E rfl rfl (Nat.le_of_ble_eq_true rfl) d_C_seed_5) ?_
  have hB := ite_some hE
  refine g_if_eq C0 (tgt := 14) d_C_seed_8 (by decide) (fun c_ => ?_) (fun c_ => ?_)
  · replace hE := hB.1 c_
    refine g_aload_n C0 0 d_C_seed_14 rfl rfl ?_
    refine g_getr C0 CK_10 7 (by decide) t_459 0 rfl rfl d_C_seed_15 ?_
    refine g_getiN C0 CK_0 2 (by decide) t_239 14 rfl rfl d_C_seed_18 ?_
    obtain ⟨v21, e21, hE⟩ := nm_some hE
    refine g_top e21 ?_
    refine g_istore_n C0 [(2, .int v21), (0, .ref (ad 0)), (1, .int a0)] d_C_seed_21 rfl (by decide) rfl ?_
    refine g_aload_n C0 1 d_C_seed_22 rfl rfl ?_
    refine g_getr C0 CK_10 7 (by decide) t_459 0 rfl rfl d_C_seed_23 ?_
    refine g_iload_n C0 2 d_C_seed_26 rfl rfl ?_
    obtain ⟨h27, e27, hE⟩ := nm_some hE
    refine g_putiN C0 CK_0 CT_0 2 (by decide) t_239 rfl (by decide +kernel) nd_C 14 rfl rfl d_C_seed_27 ?_
    refine g_heap e27 ?_
    refine g_iload_n C0 0 d_C_seed_30 rfl rfl ?_
    obtain rfl := Option.some.inj hE
    exact g_iret C0 hr d_C_seed_31
  · replace hE := hB.2 c_
    refine g_ldc C0 (v := (-1000000002)) t_502 d_C_seed_11 ?_
    obtain rfl := Option.some.inj hE
    exact g_iret C0 hr d_C_seed_13
theorem m_C_seed (l : Launch) (K : KT) (ad : Nat → Nat) (h : Hp) (a0 : Int32) {res : Int32 × Hp} (hE : K_C_seed a0 h = some res) : ConI l y_C_seed prog_1_method_30_code 3 (Option.some Jvm.ClassFile.FieldType.int) rm_C_seed K WC ad h [.ref (ad 0), .int a0] res.1 res.2 := fun sz =>
  con_start [(0, .ref (ad 0)), (1, .int a0)] (by decide +kernel) rfl (Nat.le_of_ble_eq_true rfl) (fun p e s m args below meth c C0 hr hnm hsz => w_C_seed C0 hr a0 h hE)
abbrev y_Boat_become : MethodName := ⟨"CanoeSides$Boat", "become", "(LCanoeSides$Boat;)V"⟩
abbrev rm_Boat_become : Room := { frames := 0, cells := 0, slots := 0, locals := 0 }
theorem cd_Boat_become : cwd y_Boat_become 1 := by decide +kernel
theorem d_Boat_become_0 : decode prog_2_method_2_code 0 = .ok (.aload_n 0, 1) := by decide +kernel
theorem d_Boat_become_1 : decode prog_2_method_2_code 1 = .ok (.aload_n 1, 1) := by decide +kernel
theorem d_Boat_become_2 : decode prog_2_method_2_code 2 = .ok (.getfield 9, 3) := by decide +kernel
theorem d_Boat_become_5 : decode prog_2_method_2_code 5 = .ok (.putfield 9, 3) := by decide +kernel
theorem d_Boat_become_8 : decode prog_2_method_2_code 8 = .ok (.aload_n 0, 1) := by decide +kernel
theorem d_Boat_become_9 : decode prog_2_method_2_code 9 = .ok (.aload_n 1, 1) := by decide +kernel
theorem d_Boat_become_10 : decode prog_2_method_2_code 10 = .ok (.getfield 15, 3) := by decide +kernel
theorem d_Boat_become_13 : decode prog_2_method_2_code 13 = .ok (.putfield 15, 3) := by decide +kernel
theorem d_Boat_become_16 : decode prog_2_method_2_code 16 = .ok (.aload_n 0, 1) := by decide +kernel
theorem d_Boat_become_17 : decode prog_2_method_2_code 17 = .ok (.aload_n 1, 1) := by decide +kernel
theorem d_Boat_become_18 : decode prog_2_method_2_code 18 = .ok (.getfield 18, 3) := by decide +kernel
theorem d_Boat_become_21 : decode prog_2_method_2_code 21 = .ok (.putfield 18, 3) := by decide +kernel
theorem d_Boat_become_24 : decode prog_2_method_2_code 24 = .ok (.return_, 1) := by decide +kernel
theorem w_Boat_become {p : Program} {l : Launch} {e : Env} {s : State} {m : MethodId} {args : Array Value} {below : List Frame} {meth : Method} {c : Code} {K : KT} {A : Nat → Prop} (C0 : Cx p s m args meth c prog_2_method_2_code "CanoeSides$Boat" 2 K A) (hr : meth.sig.returnType = (Option.none : Option Jvm.ClassFile.FieldType)) {ad : Nat → Nat} (h : Hp) {res : Hp} (hE : K_Boat_become h = some res) : G p l e rm_Boat_become s m args below meth c K A WBoats 2 0 0 (QV s args below K A WBoats 0 0 ad res) 0 [(0, .ref (ad 30)), (1, .ref (ad 31))] [] ad h := by
  unfold K_Boat_become at hE
  refine g_aload_n C0 0 d_Boat_become_0 rfl rfl ?_
  refine g_aload_n C0 1 d_Boat_become_1 rfl rfl ?_
  refine g_geti C0 CK_0 0 (by decide) t_234 1 rfl rfl d_Boat_become_2 ?_
  obtain ⟨h5, e5, hE⟩ := nm_some hE
  refine g_puti C0 CK_0 CT_0 0 (by decide) t_234 rfl (by decide +kernel) nd_Boats 0 rfl rfl d_Boat_become_5 ?_
  refine g_heap e5 ?_
  refine g_aload_n C0 0 d_Boat_become_8 rfl rfl ?_
  refine g_aload_n C0 1 d_Boat_become_9 rfl rfl ?_
  refine g_geti C0 CK_0 1 (by decide) t_236 1 rfl rfl d_Boat_become_10 ?_
  obtain ⟨h13, e13, hE⟩ := nm_some hE
  refine g_puti C0 CK_0 CT_0 1 (by decide) t_236 rfl (by decide +kernel) nd_Boats 0 rfl rfl d_Boat_become_13 ?_
  refine g_heap e13 ?_
  refine g_aload_n C0 0 d_Boat_become_16 rfl rfl ?_
  refine g_aload_n C0 1 d_Boat_become_17 rfl rfl ?_
  refine g_geti C0 CK_0 2 (by decide) t_238 1 rfl rfl d_Boat_become_18 ?_
  obtain ⟨h21, e21, hE⟩ := nm_some hE
  refine g_puti C0 CK_0 CT_0 2 (by decide) t_238 rfl (by decide +kernel) nd_Boats 0 rfl rfl d_Boat_become_21 ?_
  refine g_heap e21 ?_
  obtain rfl := Option.some.inj hE
  exact g_vret C0 hr d_Boat_become_24
theorem m_Boat_become (l : Launch) (K : KT) (ad : Nat → Nat) (h : Hp) {res : Hp} (hE : K_Boat_become h = some res) : ConV l y_Boat_become prog_2_method_2_code 2 (Option.none : Option Jvm.ClassFile.FieldType) rm_Boat_become K WBoats ad h [.ref (ad 30), .ref (ad 31)] res := fun sz =>
  con_start [(0, .ref (ad 30)), (1, .ref (ad 31))] (by decide +kernel) rfl (Nat.le_of_ble_eq_true rfl) (fun p e s m args below meth c C0 hr hnm hsz => w_Boat_become C0 hr h hE)
