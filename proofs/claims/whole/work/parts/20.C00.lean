/-! walks, by program -/
abbrev y_Boat_draw : MethodName := ⟨"CanoeSides$Boat", "draw", "(I)I"⟩
abbrev rm_Boat_draw : Room := { frames := 0, cells := 0, slots := 0, locals := 0 }
theorem cd_Boat_draw : cwd y_Boat_draw 1 := by decide +kernel
theorem d_Boat_draw_0 : decode prog_2_method_3_code 0 = .ok (.aload_n 0, 1) := by decide +kernel
theorem d_Boat_draw_1 : decode prog_2_method_3_code 1 = .ok (.aload_n 0, 1) := by decide +kernel
theorem d_Boat_draw_2 : decode prog_2_method_3_code 2 = .ok (.getfield 18, 3) := by decide +kernel
theorem d_Boat_draw_5 : decode prog_2_method_3_code 5 = .ok (.i2l, 1) := by decide +kernel
theorem d_Boat_draw_6 : decode prog_2_method_3_code 6 = .ok (.ldc2_w 21, 3) := by decide +kernel
theorem d_Boat_draw_9 : decode prog_2_method_3_code 9 = .ok (.lmul, 1) := by decide +kernel
theorem d_Boat_draw_10 : decode prog_2_method_3_code 10 = .ok (.ldc2_w 23, 3) := by decide +kernel
theorem d_Boat_draw_13 : decode prog_2_method_3_code 13 = .ok (.ladd, 1) := by decide +kernel
theorem d_Boat_draw_14 : decode prog_2_method_3_code 14 = .ok (.ldc2_w 25, 3) := by decide +kernel
theorem d_Boat_draw_17 : decode prog_2_method_3_code 17 = .ok (.land, 1) := by decide +kernel
theorem d_Boat_draw_18 : decode prog_2_method_3_code 18 = .ok (.l2i, 1) := by decide +kernel
theorem d_Boat_draw_19 : decode prog_2_method_3_code 19 = .ok (.putfield 18, 3) := by decide +kernel
theorem d_Boat_draw_22 : decode prog_2_method_3_code 22 = .ok (.iload_n 1, 1) := by decide +kernel
theorem d_Boat_draw_23 : decode prog_2_method_3_code 23 = .ok (.ifCond .le 15, 3) := by decide +kernel
theorem d_Boat_draw_26 : decode prog_2_method_3_code 26 = .ok (.aload_n 0, 1) := by decide +kernel
theorem d_Boat_draw_27 : decode prog_2_method_3_code 27 = .ok (.getfield 18, 3) := by decide +kernel
theorem d_Boat_draw_30 : decode prog_2_method_3_code 30 = .ok (.ldc 27, 2) := by decide +kernel
theorem d_Boat_draw_32 : decode prog_2_method_3_code 32 = .ok (.idiv, 1) := by decide +kernel
theorem d_Boat_draw_33 : decode prog_2_method_3_code 33 = .ok (.iload_n 1, 1) := by decide +kernel
theorem d_Boat_draw_34 : decode prog_2_method_3_code 34 = .ok (.irem, 1) := by decide +kernel
theorem d_Boat_draw_35 : decode prog_2_method_3_code 35 = .ok (.goto 4, 3) := by decide +kernel
theorem d_Boat_draw_38 : decode prog_2_method_3_code 38 = .ok (.iconst 0, 1) := by decide +kernel
theorem d_Boat_draw_39 : decode prog_2_method_3_code 39 = .ok (.ireturn, 1) := by decide +kernel
theorem w_Boat_draw {p : Program} {l : Launch} {e : Env} {s : State} {m : MethodId} {args : Array Value} {below : List Frame} {meth : Method} {c : Code} {K : KT} {A : Nat → Prop} (C0 : Cx p s m args meth c prog_2_method_3_code "CanoeSides$Boat" 2 K A) (hr : meth.sig.returnType = (Option.some Jvm.ClassFile.FieldType.int)) {ad : Nat → Nat} (a0 : Int32) (h : Hp) {res : Int32 × Hp} (hE : K_Boat_draw a0 h = some res) : G p l e rm_Boat_draw s m args below meth c K A WBoat 2 0 0 (QI s args below K A WBoat 0 0 ad res.1 res.2) 0 [(0, .ref (ad 30)), (1, .int a0)] [] ad h := by
  unfold K_Boat_draw at hE
  refine g_aload_n C0 0 d_Boat_draw_0 rfl rfl ?_
  refine g_aload_n C0 0 d_Boat_draw_1 rfl rfl ?_
  refine g_geti C0 CK_0 2 (by decide) t_238 0 rfl rfl d_Boat_draw_2 ?_
  refine g_i2l C0 d_Boat_draw_5 ?_
  refine g_ldc2 C0 (v := 1103515245) t_833 d_Boat_draw_6 ?_
  refine g_lmul C0 d_Boat_draw_9 ?_
  refine g_ldc2 C0 (v := 12345) t_834 d_Boat_draw_10 ?_
  refine g_ladd C0 d_Boat_draw_13 ?_
  refine g_ldc2 C0 (v := 2147483647) t_835 d_Boat_draw_14 ?_
  refine g_land C0 d_Boat_draw_17 ?_
  refine g_l2i C0 d_Boat_draw_18 ?_
  obtain ⟨h19, e19, hE⟩ := nm_some hE
  refine g_puti C0 CK_0 CT_0 2 (by decide) t_238 rfl (by decide +kernel) nd_Boat 0 rfl rfl d_Boat_draw_19 ?_
  refine g_heap e19 ?_
  refine g_iload_n C0 1 d_Boat_draw_22 rfl rfl ?_
  have hB := ite_some hE
  refine g_if_le C0 (tgt := 38) d_Boat_draw_23 (by decide) (fun c_ => ?_) (fun c_ => ?_)
  · replace hE := hB.1 c_
    refine g_iconst C0 (v := 0) d_Boat_draw_38 (by decide) ?_
    obtain rfl := Option.some.inj hE
    exact g_iret C0 hr d_Boat_draw_39
  · replace hE := hB.2 c_
    refine g_aload_n C0 0 d_Boat_draw_26 rfl rfl ?_
    refine g_geti C0 CK_0 2 (by decide) t_238 0 rfl rfl d_Boat_draw_27 ?_
    refine g_ldc C0 (v := 65536) t_836 d_Boat_draw_30 ?_
    refine g_idiv C0 d_Boat_draw_32 (by decide) ?_
    refine g_iload_n C0 1 d_Boat_draw_33 rfl rfl ?_
    obtain ⟨q34, hE⟩ := dz_some hE
    refine g_irem C0 d_Boat_draw_34 q34 ?_
    refine g_goto C0 (tgt := 39) d_Boat_draw_35 (by decide) ?_
    obtain rfl := Option.some.inj hE
    exact g_iret C0 hr d_Boat_draw_39
theorem m_Boat_draw (l : Launch) (K : KT) (ad : Nat → Nat) (h : Hp) (a0 : Int32) {res : Int32 × Hp} (hE : K_Boat_draw a0 h = some res) : ConI l y_Boat_draw prog_2_method_3_code 2 (Option.some Jvm.ClassFile.FieldType.int) rm_Boat_draw K WBoat ad h [.ref (ad 30), .int a0] res.1 res.2 := fun sz =>
  con_start [(0, .ref (ad 30)), (1, .int a0)] (by decide +kernel) rfl (Nat.le_of_ble_eq_true rfl) (fun p e s m args below meth c C0 hr hnm hsz => w_Boat_draw C0 hr a0 h hE)
abbrev y_Calling_forget : MethodName := ⟨"CanoeSides$Calling", "forget", "()V"⟩
abbrev rm_Calling_forget : Room := { frames := 0, cells := 0, slots := 0, locals := 0 }
theorem cd_Calling_forget : cwd y_Calling_forget 0 := by decide +kernel
theorem d_Calling_forget_0 : decode prog_3_method_2_code 0 = .ok (.aload_n 0, 1) := by decide +kernel
theorem d_Calling_forget_1 : decode prog_3_method_2_code 1 = .ok (.iconst (-1), 1) := by decide +kernel
theorem d_Calling_forget_2 : decode prog_3_method_2_code 2 = .ok (.putfield 37, 3) := by decide +kernel
theorem d_Calling_forget_5 : decode prog_3_method_2_code 5 = .ok (.return_, 1) := by decide +kernel
theorem w_Calling_forget {p : Program} {l : Launch} {e : Env} {s : State} {m : MethodId} {args : Array Value} {below : List Frame} {meth : Method} {c : Code} {K : KT} {A : Nat → Prop} (C0 : Cx p s m args meth c prog_3_method_2_code "CanoeSides$Calling" 1 K A) (hr : meth.sig.returnType = (Option.none : Option Jvm.ClassFile.FieldType)) {ad : Nat → Nat} (h : Hp) {res : Hp} (hE : K_Calling_forget h = some res) : G p l e rm_Calling_forget s m args below meth c K A WCalling 1 0 0 (QV s args below K A WCalling 0 0 ad res) 0 [(0, .ref (ad 45))] [] ad h := by
  unfold K_Calling_forget at hE
  refine g_aload_n C0 0 d_Calling_forget_0 rfl rfl ?_
  refine g_iconst C0 (v := (-1)) d_Calling_forget_1 (by decide) ?_
  obtain ⟨h2, e2, hE⟩ := nm_some hE
  refine g_puti C0 CK_1 CT_1 8 (by decide) t_337 rfl (by decide +kernel) nd_Calling 0 rfl rfl d_Calling_forget_2 ?_
  refine g_heap e2 ?_
  obtain rfl := Option.some.inj hE
  exact g_vret C0 hr d_Calling_forget_5
theorem m_Calling_forget (l : Launch) (K : KT) (ad : Nat → Nat) (h : Hp) {res : Hp} (hE : K_Calling_forget h = some res) : ConV l y_Calling_forget prog_3_method_2_code 1 (Option.none : Option Jvm.ClassFile.FieldType) rm_Calling_forget K WCalling ad h [.ref (ad 45)] res := fun sz =>
  con_start [(0, .ref (ad 45))] (by decide +kernel) rfl (Nat.le_of_ble_eq_true rfl) (fun p e s m args below meth c C0 hr hnm hsz => w_Calling_forget C0 hr h hE)
abbrev y_River_isGoal : MethodName := ⟨"CanoeSides$River", "isGoal", "(I)Z"⟩
abbrev rm_River_isGoal : Room := { frames := 0, cells := 0, slots := 0, locals := 0 }
theorem cd_River_isGoal : cwd y_River_isGoal 1 := by decide +kernel
theorem d_River_isGoal_0 : decode prog_9_method_6_code 0 = .ok (.aload_n 0, 1) := by decide +kernel
theorem d_River_isGoal_1 : decode prog_9_method_6_code 1 = .ok (.getfield 37, 3) := by decide +kernel
theorem d_River_isGoal_4 : decode prog_9_method_6_code 4 = .ok (.iconst (-1), 1) := by decide +kernel
theorem d_River_isGoal_5 : decode prog_9_method_6_code 5 = .ok (.if_icmp .eq 38, 3) := by decide +kernel
theorem d_River_isGoal_8 : decode prog_9_method_6_code 8 = .ok (.iload_n 1, 1) := by decide +kernel
theorem d_River_isGoal_9 : decode prog_9_method_6_code 9 = .ok (.bipush 8, 2) := by decide +kernel
theorem d_River_isGoal_11 : decode prog_9_method_6_code 11 = .ok (.idiv, 1) := by decide +kernel
theorem d_River_isGoal_12 : decode prog_9_method_6_code 12 = .ok (.aload_n 0, 1) := by decide +kernel
theorem d_River_isGoal_13 : decode prog_9_method_6_code 13 = .ok (.getfield 37, 3) := by decide +kernel
theorem d_River_isGoal_16 : decode prog_9_method_6_code 16 = .ok (.if_icmp .ne 27, 3) := by decide +kernel
theorem d_River_isGoal_19 : decode prog_9_method_6_code 19 = .ok (.aload_n 0, 1) := by decide +kernel
theorem d_River_isGoal_20 : decode prog_9_method_6_code 20 = .ok (.getfield 40, 3) := by decide +kernel
theorem d_River_isGoal_23 : decode prog_9_method_6_code 23 = .ok (.bipush 8, 2) := by decide +kernel
theorem d_River_isGoal_25 : decode prog_9_method_6_code 25 = .ok (.if_icmp .eq 14, 3) := by decide +kernel
theorem d_River_isGoal_28 : decode prog_9_method_6_code 28 = .ok (.iload_n 1, 1) := by decide +kernel
theorem d_River_isGoal_29 : decode prog_9_method_6_code 29 = .ok (.bipush 8, 2) := by decide +kernel
theorem d_River_isGoal_31 : decode prog_9_method_6_code 31 = .ok (.irem, 1) := by decide +kernel
theorem d_River_isGoal_32 : decode prog_9_method_6_code 32 = .ok (.aload_n 0, 1) := by decide +kernel
theorem d_River_isGoal_33 : decode prog_9_method_6_code 33 = .ok (.getfield 40, 3) := by decide +kernel
theorem d_River_isGoal_36 : decode prog_9_method_6_code 36 = .ok (.if_icmp .ne 7, 3) := by decide +kernel
theorem d_River_isGoal_39 : decode prog_9_method_6_code 39 = .ok (.iconst 1, 1) := by decide +kernel
theorem d_River_isGoal_40 : decode prog_9_method_6_code 40 = .ok (.goto 4, 3) := by decide +kernel
theorem d_River_isGoal_43 : decode prog_9_method_6_code 43 = .ok (.iconst 0, 1) := by decide +kernel
theorem d_River_isGoal_44 : decode prog_9_method_6_code 44 = .ok (.ireturn, 1) := by decide +kernel
theorem w_River_isGoal_J39 {p : Program} {l : Launch} {e : Env} {s : State} {m : MethodId} {args : Array Value} {below : List Frame} {meth : Method} {c : Code} {K : KT} {A : Nat → Prop} (C0 : Cx p s m args meth c prog_9_method_6_code "CanoeSides$River" 2 K A) (hr : meth.sig.returnType = (Option.some Jvm.ClassFile.FieldType.boolean)) {ad : Nat → Nat} (h : Hp) {res : Int32} (hE : K_River_isGoal_J39 h = some res) : G p l e rm_River_isGoal s m args below meth c K A WRiver 2 0 0 (QI s args below K A WRiver 0 0 ad res h) 39 [] [] ad h := by
  unfold K_River_isGoal_J39 at hE
  refine g_iconst C0 (v := 1) d_River_isGoal_39 (by decide) ?_
  refine g_goto C0 (tgt := 44) d_River_isGoal_40 (by decide) ?_
  obtain rfl := Option.some.inj hE
  exact g_zret C0 hr nz1 d_River_isGoal_44
theorem w_River_isGoal {p : Program} {l : Launch} {e : Env} {s : State} {m : MethodId} {args : Array Value} {below : List Frame} {meth : Method} {c : Code} {K : KT} {A : Nat → Prop} (C0 : Cx p s m args meth c prog_9_method_6_code "CanoeSides$River" 2 K A) (hr : meth.sig.returnType = (Option.some Jvm.ClassFile.FieldType.boolean)) {ad : Nat → Nat} (a0 : Int32) (h : Hp) {res : Int32} (hE : K_River_isGoal a0 h = some res) : G p l e rm_River_isGoal s m args below meth c K A WRiver 2 0 0 (QI s args below K A WRiver 0 0 ad res h) 0 [(0, .ref (ad 10)), (1, .int a0)] [] ad h := by
  unfold K_River_isGoal at hE
  refine g_aload_n C0 0 d_River_isGoal_0 rfl rfl ?_
  refine g_geti C0 CK_7 8 (by decide) t_147 0 rfl rfl d_River_isGoal_1 ?_
  refine g_iconst C0 (v := (-1)) d_River_isGoal_4 (by decide) ?_
  have hB := ite_some hE
  refine g_icmp_eq C0 (tgt := 43) d_River_isGoal_5 (by decide) (fun c_ => ?_) (fun c_ => ?_)
  · replace hE := hB.1 c_
    refine g_iconst C0 (v := 0) d_River_isGoal_43 (by decide) ?_
    obtain rfl := Option.some.inj hE
    exact g_zret C0 hr nz0 d_River_isGoal_44
  · replace hE := hB.2 c_
    refine g_iload_n C0 1 d_River_isGoal_8 rfl rfl ?_
    refine g_bipush C0 (v := 8) d_River_isGoal_9 (by decide) ?_
    refine g_idiv C0 d_River_isGoal_11 (by decide) ?_
    refine g_aload_n C0 0 d_River_isGoal_12 rfl rfl ?_
    refine g_geti C0 CK_7 8 (by decide) t_147 0 rfl rfl d_River_isGoal_13 ?_
    have hB := ite_some hE
    refine g_icmp_ne C0 (tgt := 43) d_River_isGoal_16 (by decide) (fun c_ => ?_) (fun c_ => ?_)
    · replace hE := hB.2 c_
      refine g_iconst C0 (v := 0) d_River_isGoal_43 (by decide) ?_
      obtain rfl := Option.some.inj hE
      exact g_zret C0 hr nz0 d_River_isGoal_44
    · replace hE := hB.1 c_
      refine g_aload_n C0 0 d_River_isGoal_19 rfl rfl ?_
      refine g_geti C0 CK_7 9 (by decide) t_153 0 rfl rfl d_River_isGoal_20 ?_
      refine g_bipush C0 (v := 8) d_River_isGoal_23 (by decide) ?_
      have hB := ite_some hE
      refine g_icmp_eq C0 (tgt := 39) d_River_isGoal_25 (by decide) (fun c_ => ?_) (fun c_ => ?_)
      · replace hE := hB.1 c_
        refine g_sub [] (L' := []) rfl ?_
        exact w_River_isGoal_J39 C0 hr h hE
      · replace hE := hB.2 c_
        refine g_iload_n C0 1 d_River_isGoal_28 rfl rfl ?_
        refine g_bipush C0 (v := 8) d_River_isGoal_29 (by decide) ?_
        refine g_irem C0 d_River_isGoal_31 (by decide) ?_
        refine g_aload_n C0 0 d_River_isGoal_32 rfl rfl ?_
        refine g_geti C0 CK_7 9 (by decide) t_153 0 rfl rfl d_River_isGoal_33 ?_
        have hB := ite_some hE
        refine g_icmp_ne C0 (tgt := 43) d_River_isGoal_36 (by decide) (fun c_ => ?_) (fun c_ => ?_)
        · replace hE := hB.2 c_
          refine g_iconst C0 (v := 0) d_River_isGoal_43 (by decide) ?_
          obtain rfl := Option.some.inj hE
          exact g_zret C0 hr nz0 d_River_isGoal_44
        · replace hE := hB.1 c_
          refine g_sub [] (L' := []) rfl ?_
          exact w_River_isGoal_J39 C0 hr h hE
theorem m_River_isGoal (l : Launch) (K : KT) (ad : Nat → Nat) (h : Hp) (a0 : Int32) {res : Int32} (hE : K_River_isGoal a0 h = some res) : ConI l y_River_isGoal prog_9_method_6_code 2 (Option.some Jvm.ClassFile.FieldType.boolean) rm_River_isGoal K WRiver ad h [.ref (ad 10), .int a0] res h := fun sz =>
  con_start [(0, .ref (ad 10)), (1, .int a0)] (by decide +kernel) rfl (Nat.le_of_ble_eq_true rfl) (fun p e s m args below meth c C0 hr hnm hsz => w_River_isGoal C0 hr a0 h hE)
abbrev y_Crew_turnOf : MethodName := ⟨"CanoeSides$Crew", "turnOf", "(I)I"⟩
abbrev rm_Crew_turnOf : Room := { frames := 0, cells := 0, slots := 0, locals := 0 }
theorem cd_Crew_turnOf : cwd y_Crew_turnOf 1 := by decide +kernel
theorem d_Crew_turnOf_0 : decode prog_4_method_5_code 0 = .ok (.iload_n 1, 1) := by decide +kernel
theorem d_Crew_turnOf_1 : decode prog_4_method_5_code 1 = .ok (.ifCond .lt 21, 3) := by decide +kernel
theorem d_Crew_turnOf_4 : decode prog_4_method_5_code 4 = .ok (.iload_n 1, 1) := by decide +kernel
theorem d_Crew_turnOf_5 : decode prog_4_method_5_code 5 = .ok (.aload_n 0, 1) := by decide +kernel
theorem d_Crew_turnOf_6 : decode prog_4_method_5_code 6 = .ok (.getfield 9, 3) := by decide +kernel
theorem d_Crew_turnOf_9 : decode prog_4_method_5_code 9 = .ok (.arraylength, 1) := by decide +kernel
theorem d_Crew_turnOf_10 : decode prog_4_method_5_code 10 = .ok (.if_icmp .ge 12, 3) := by decide +kernel
theorem d_Crew_turnOf_13 : decode prog_4_method_5_code 13 = .ok (.aload_n 0, 1) := by decide +kernel
theorem d_Crew_turnOf_14 : decode prog_4_method_5_code 14 = .ok (.getfield 9, 3) := by decide +kernel
theorem d_Crew_turnOf_17 : decode prog_4_method_5_code 17 = .ok (.iload_n 1, 1) := by decide +kernel
theorem d_Crew_turnOf_18 : decode prog_4_method_5_code 18 = .ok (.iaload, 1) := by decide +kernel
theorem d_Crew_turnOf_19 : decode prog_4_method_5_code 19 = .ok (.goto 4, 3) := by decide +kernel
theorem d_Crew_turnOf_22 : decode prog_4_method_5_code 22 = .ok (.iconst 0, 1) := by decide +kernel
theorem d_Crew_turnOf_23 : decode prog_4_method_5_code 23 = .ok (.ireturn, 1) := by decide +kernel
theorem w_Crew_turnOf {p : Program} {l : Launch} {e : Env} {s : State} {m : MethodId} {args : Array Value} {below : List Frame} {meth : Method} {c : Code} {K : KT} {A : Nat → Prop} (C0 : Cx p s m args meth c prog_4_method_5_code "CanoeSides$Crew" 2 K A) (hr : meth.sig.returnType = (Option.some Jvm.ClassFile.FieldType.int)) {ad : Nat → Nat} (a0 : Int32) (h : Hp) {res : Int32} (hE : K_Crew_turnOf a0 h = some res) : G p l e rm_Crew_turnOf s m args below meth c K A WCrew 2 0 0 (QI s args below K A WCrew 0 0 ad res h) 0 [(0, .ref (ad 20)), (1, .int a0)] [] ad h := by
  unfold K_Crew_turnOf at hE
  refine g_iload_n C0 1 d_Crew_turnOf_0 rfl rfl ?_
  have hB := ite_some hE
  refine g_if_lt C0 (tgt := 22) d_Crew_turnOf_1 (by decide) (fun c_ => ?_) (fun c_ => ?_)
  · replace hE := hB.1 c_
    refine g_iconst C0 (v := 0) d_Crew_turnOf_22 (by decide) ?_
    obtain rfl := Option.some.inj hE
    exact g_iret C0 hr d_Crew_turnOf_23
  · replace hE := hB.2 c_
    refine g_iload_n C0 1 d_Crew_turnOf_4 rfl rfl ?_
    refine g_aload_n C0 0 d_Crew_turnOf_5 rfl rfl ?_
    refine g_getr C0 CK_2 1 (by decide) t_219 0 rfl rfl d_Crew_turnOf_6 ?_
    refine g_alen C0 1 rfl rfl (v := 16) (by decide) d_Crew_turnOf_9 ?_
    have hB := ite_some hE
    refine g_icmp_ge C0 (tgt := 22) d_Crew_turnOf_10 (by decide) (fun c_ => ?_) (fun c_ => ?_)
    · replace hE := hB.1 c_
      refine g_iconst C0 (v := 0) d_Crew_turnOf_22 (by decide) ?_
      obtain rfl := Option.some.inj hE
      exact g_iret C0 hr d_Crew_turnOf_23
    · replace hE := hB.2 c_
      refine g_aload_n C0 0 d_Crew_turnOf_13 rfl rfl ?_
      refine g_getr C0 CK_2 1 (by decide) t_219 0 rfl rfl d_Crew_turnOf_14 ?_
      refine g_iload_n C0 1 d_Crew_turnOf_17 rfl rfl ?_
      obtain ⟨q18, v18, e18, hE⟩ := gA_some hE
      refine g_iald C0 1 rfl q18 d_Crew_turnOf_18 ?_
      refine g_top e18 ?_
      refine g_goto C0 (tgt := 23) d_Crew_turnOf_19 (by decide) ?_
      obtain rfl := Option.some.inj hE
      exact g_iret C0 hr d_Crew_turnOf_23
theorem m_Crew_turnOf (l : Launch) (K : KT) (ad : Nat → Nat) (h : Hp) (a0 : Int32) {res : Int32} (hE : K_Crew_turnOf a0 h = some res) : ConI l y_Crew_turnOf prog_4_method_5_code 2 (Option.some Jvm.ClassFile.FieldType.int) rm_Crew_turnOf K WCrew ad h [.ref (ad 20), .int a0] res h := fun sz =>
  con_start [(0, .ref (ad 20)), (1, .int a0)] (by decide +kernel) rfl (Nat.le_of_ble_eq_true rfl) (fun p e s m args below meth c C0 hr hnm hsz => w_Crew_turnOf C0 hr a0 h hE)
abbrev y_Crew_pushOf : MethodName := ⟨"CanoeSides$Crew", "pushOf", "(I)I"⟩
abbrev rm_Crew_pushOf : Room := { frames := 0, cells := 0, slots := 0, locals := 0 }
theorem cd_Crew_pushOf : cwd y_Crew_pushOf 1 := by decide +kernel
theorem d_Crew_pushOf_0 : decode prog_4_method_6_code 0 = .ok (.iload_n 1, 1) := by decide +kernel
theorem d_Crew_pushOf_1 : decode prog_4_method_6_code 1 = .ok (.ifCond .lt 21, 3) := by decide +kernel
theorem d_Crew_pushOf_4 : decode prog_4_method_6_code 4 = .ok (.iload_n 1, 1) := by decide +kernel
theorem d_Crew_pushOf_5 : decode prog_4_method_6_code 5 = .ok (.aload_n 0, 1) := by decide +kernel
theorem d_Crew_pushOf_6 : decode prog_4_method_6_code 6 = .ok (.getfield 15, 3) := by decide +kernel
theorem d_Crew_pushOf_9 : decode prog_4_method_6_code 9 = .ok (.arraylength, 1) := by decide +kernel
theorem d_Crew_pushOf_10 : decode prog_4_method_6_code 10 = .ok (.if_icmp .ge 12, 3) := by decide +kernel
theorem d_Crew_pushOf_13 : decode prog_4_method_6_code 13 = .ok (.aload_n 0, 1) := by decide +kernel
theorem d_Crew_pushOf_14 : decode prog_4_method_6_code 14 = .ok (.getfield 15, 3) := by decide +kernel
theorem d_Crew_pushOf_17 : decode prog_4_method_6_code 17 = .ok (.iload_n 1, 1) := by decide +kernel
theorem d_Crew_pushOf_18 : decode prog_4_method_6_code 18 = .ok (.iaload, 1) := by decide +kernel
theorem d_Crew_pushOf_19 : decode prog_4_method_6_code 19 = .ok (.goto 4, 3) := by decide +kernel
theorem d_Crew_pushOf_22 : decode prog_4_method_6_code 22 = .ok (.iconst 0, 1) := by decide +kernel
theorem d_Crew_pushOf_23 : decode prog_4_method_6_code 23 = .ok (.ireturn, 1) := by decide +kernel
theorem w_Crew_pushOf {p : Program} {l : Launch} {e : Env} {s : State} {m : MethodId} {args : Array Value} {below : List Frame} {meth : Method} {c : Code} {K : KT} {A : Nat → Prop} (C0 : Cx p s m args meth c prog_4_method_6_code "CanoeSides$Crew" 2 K A) (hr : meth.sig.returnType = (Option.some Jvm.ClassFile.FieldType.int)) {ad : Nat → Nat} (a0 : Int32) (h : Hp) {res : Int32} (hE : K_Crew_pushOf a0 h = some res) : G p l e rm_Crew_pushOf s m args below meth c K A WCrew 2 0 0 (QI s args below K A WCrew 0 0 ad res h) 0 [(0, .ref (ad 20)), (1, .int a0)] [] ad h := by
  unfold K_Crew_pushOf at hE
  refine g_iload_n C0 1 d_Crew_pushOf_0 rfl rfl ?_
  have hB := ite_some hE
  refine g_if_lt C0 (tgt := 22) d_Crew_pushOf_1 (by decide) (fun c_ => ?_) (fun c_ => ?_)
  · replace hE := hB.1 c_
    refine g_iconst C0 (v := 0) d_Crew_pushOf_22 (by decide) ?_
    obtain rfl := Option.some.inj hE
    exact g_iret C0 hr d_Crew_pushOf_23
  · replace hE := hB.2 c_
    refine g_iload_n C0 1 d_Crew_pushOf_4 rfl rfl ?_
    refine g_aload_n C0 0 d_Crew_pushOf_5 rfl rfl ?_
    refine g_getr C0 CK_2 2 (by decide) t_220 0 rfl rfl d_Crew_pushOf_6 ?_
    refine g_alen C0 2 rfl rfl (v := 16) (by decide) d_Crew_pushOf_9 ?_
    have hB := ite_some hE
    refine g_icmp_ge C0 (tgt := 22) d_Crew_pushOf_10 (by decide) (fun c_ => ?_) (fun c_ => ?_)
    · replace hE := hB.1 c_
      refine g_iconst C0 (v := 0) d_Crew_pushOf_22 (by decide) ?_
      obtain rfl := Option.some.inj hE
      exact g_iret C0 hr d_Crew_pushOf_23
    · replace hE := hB.2 c_
      refine g_aload_n C0 0 d_Crew_pushOf_13 rfl rfl ?_
      refine g_getr C0 CK_2 2 (by decide) t_220 0 rfl rfl d_Crew_pushOf_14 ?_
      refine g_iload_n C0 1 d_Crew_pushOf_17 rfl rfl ?_
      obtain ⟨q18, v18, e18, hE⟩ := gA_some hE
      refine g_iald C0 2 rfl q18 d_Crew_pushOf_18 ?_
      refine g_top e18 ?_
      refine g_goto C0 (tgt := 23) d_Crew_pushOf_19 (by decide) ?_
      obtain rfl := Option.some.inj hE
      exact g_iret C0 hr d_Crew_pushOf_23
theorem m_Crew_pushOf (l : Launch) (K : KT) (ad : Nat → Nat) (h : Hp) (a0 : Int32) {res : Int32} (hE : K_Crew_pushOf a0 h = some res) : ConI l y_Crew_pushOf prog_4_method_6_code 2 (Option.some Jvm.ClassFile.FieldType.int) rm_Crew_pushOf K WCrew ad h [.ref (ad 20), .int a0] res h := fun sz =>
  con_start [(0, .ref (ad 20)), (1, .int a0)] (by decide +kernel) rfl (Nat.le_of_ble_eq_true rfl) (fun p e s m args below meth c C0 hr hnm hsz => w_Crew_pushOf C0 hr a0 h hE)
abbrev y_Waters_calm : MethodName := ⟨"CanoeSides$Waters", "calm", "(III)I"⟩
abbrev rm_Waters_calm : Room := { frames := 0, cells := 0, slots := 0, locals := 0 }
theorem cd_Waters_calm : cwd y_Waters_calm 3 := by decide +kernel
theorem d_Waters_calm_0 : decode prog_11_method_4_code 0 = .ok (.iload_n 1, 1) := by decide +kernel
theorem d_Waters_calm_1 : decode prog_11_method_4_code 1 = .ok (.iload_n 2, 1) := by decide +kernel
theorem d_Waters_calm_2 : decode prog_11_method_4_code 2 = .ok (.iadd, 1) := by decide +kernel
theorem d_Waters_calm_3 : decode prog_11_method_4_code 3 = .ok (.bipush 7, 2) := by decide +kernel
theorem d_Waters_calm_5 : decode prog_11_method_4_code 5 = .ok (.iand, 1) := by decide +kernel
theorem d_Waters_calm_6 : decode prog_11_method_4_code 6 = .ok (.istore 4, 2) := by decide +kernel
theorem d_Waters_calm_8 : decode prog_11_method_4_code 8 = .ok (.iload_n 1, 1) := by decide +kernel
theorem d_Waters_calm_9 : decode prog_11_method_4_code 9 = .ok (.bipush 8, 2) := by decide +kernel
theorem d_Waters_calm_11 : decode prog_11_method_4_code 11 = .ok (.idiv, 1) := by decide +kernel
theorem d_Waters_calm_12 : decode prog_11_method_4_code 12 = .ok (.bipush 8, 2) := by decide +kernel
theorem d_Waters_calm_14 : decode prog_11_method_4_code 14 = .ok (.imul, 1) := by decide +kernel
theorem d_Waters_calm_15 : decode prog_11_method_4_code 15 = .ok (.iload 4, 2) := by decide +kernel
theorem d_Waters_calm_17 : decode prog_11_method_4_code 17 = .ok (.iadd, 1) := by decide +kernel
theorem d_Waters_calm_18 : decode prog_11_method_4_code 18 = .ok (.istore 5, 2) := by decide +kernel
theorem d_Waters_calm_20 : decode prog_11_method_4_code 20 = .ok (.iload 5, 2) := by decide +kernel
theorem d_Waters_calm_22 : decode prog_11_method_4_code 22 = .ok (.iconst 5, 1) := by decide +kernel
theorem d_Waters_calm_23 : decode prog_11_method_4_code 23 = .ok (.imul, 1) := by decide +kernel
theorem d_Waters_calm_24 : decode prog_11_method_4_code 24 = .ok (.iload_n 3, 1) := by decide +kernel
theorem d_Waters_calm_25 : decode prog_11_method_4_code 25 = .ok (.iadd, 1) := by decide +kernel
theorem d_Waters_calm_26 : decode prog_11_method_4_code 26 = .ok (.iconst 2, 1) := by decide +kernel
theorem d_Waters_calm_27 : decode prog_11_method_4_code 27 = .ok (.iadd, 1) := by decide +kernel
theorem d_Waters_calm_28 : decode prog_11_method_4_code 28 = .ok (.istore 6, 2) := by decide +kernel
theorem d_Waters_calm_30 : decode prog_11_method_4_code 30 = .ok (.iload 6, 2) := by decide +kernel
theorem d_Waters_calm_32 : decode prog_11_method_4_code 32 = .ok (.ifCond .lt 29, 3) := by decide +kernel
theorem d_Waters_calm_35 : decode prog_11_method_4_code 35 = .ok (.iload 6, 2) := by decide +kernel
theorem d_Waters_calm_37 : decode prog_11_method_4_code 37 = .ok (.aload_n 0, 1) := by decide +kernel
theorem d_Waters_calm_38 : decode prog_11_method_4_code 38 = .ok (.getfield 11, 3) := by decide +kernel
theorem d_Waters_calm_41 : decode prog_11_method_4_code 41 = .ok (.arraylength, 1) := by decide +kernel
theorem d_Waters_calm_42 : decode prog_11_method_4_code 42 = .ok (.if_icmp .ge 19, 3) := by decide +kernel
theorem d_Waters_calm_45 : decode prog_11_method_4_code 45 = .ok (.aload_n 0, 1) := by decide +kernel
theorem d_Waters_calm_46 : decode prog_11_method_4_code 46 = .ok (.getfield 11, 3) := by decide +kernel
theorem d_Waters_calm_49 : decode prog_11_method_4_code 49 = .ok (.iload 6, 2) := by decide +kernel
theorem d_Waters_calm_51 : decode prog_11_method_4_code 51 = .ok (.iaload, 1) := by decide +kernel
theorem d_Waters_calm_52 : decode prog_11_method_4_code 52 = .ok (.bipush 8, 2) := by decide +kernel
theorem d_Waters_calm_54 : decode prog_11_method_4_code 54 = .ok (.imul, 1) := by decide +kernel
theorem d_Waters_calm_55 : decode prog_11_method_4_code 55 = .ok (.iload 4, 2) := by decide +kernel
theorem d_Waters_calm_57 : decode prog_11_method_4_code 57 = .ok (.iadd, 1) := by decide +kernel
theorem d_Waters_calm_58 : decode prog_11_method_4_code 58 = .ok (.goto 4, 3) := by decide +kernel
theorem d_Waters_calm_61 : decode prog_11_method_4_code 61 = .ok (.iload_n 1, 1) := by decide +kernel
theorem d_Waters_calm_62 : decode prog_11_method_4_code 62 = .ok (.ireturn, 1) := by decide +kernel
theorem w_Waters_calm {p : Program} {l : Launch} {e : Env} {s : State} {m : MethodId} {args : Array Value} {below : List Frame} {meth : Method} {c : Code} {K : KT} {A : Nat → Prop} (C0 : Cx p s m args meth c prog_11_method_4_code "CanoeSides$Waters" 7 K A) (hr : meth.sig.returnType = (Option.some Jvm.ClassFile.FieldType.int)) {ad : Nat → Nat} (a0 : Int32) (b0 : Int32) (c0 : Int32) (h : Hp) {res : Int32} (hE : K_Waters_calm a0 b0 c0 h = some res) : G p l e rm_Waters_calm s m args below meth c K A WWaters 7 0 0 (QI s args below K A WWaters 0 0 ad res h) 0 [(0, .ref (ad 15)), (1, .int a0), (2, .int b0), (3, .int c0)] [] ad h := by
  unfold K_Waters_calm at hE
  refine g_iload_n C0 1 d_Waters_calm_0 rfl rfl ?_
  refine g_iload_n C0 2 d_Waters_calm_1 rfl rfl ?_
  refine g_iadd C0 d_Waters_calm_2 ?_
  refine g_bipush C0 (v := 7) d_Waters_calm_3 (by decide) ?_
  refine g_iand C0 d_Waters_calm_5 ?_
  obtain ⟨v6, e6, hE⟩ := nm_some hE
  refine g_top e6 ?_
  refine g_istore C0 [(4, .int v6), (0, .ref (ad 15)), (1, .int a0), (2, .int b0), (3, .int c0)] d_Waters_calm_6 (by decide) rfl ?_
  refine g_iload_n C0 2 d_Waters_calm_8 rfl rfl ?_
  refine g_bipush C0 (v := 8) d_Waters_calm_9 (by decide) ?_
  refine g_idiv C0 d_Waters_calm_11 (by decide) ?_
  refine g_bipush C0 (v := 8) d_Waters_calm_12 (by decide) ?_
  refine g_imul C0 d_Waters_calm_14 ?_
  refine g_iload C0 0 d_Waters_calm_15 rfl ?_
  refine g_iadd C0 d_Waters_calm_17 ?_
  obtain ⟨v18, e18, hE⟩ := nm_some hE
  refine g_top e18 ?_
  refine g_istore C0 [(5, .int v18), (4, .int v6), (0, .ref (ad 15)), (1, .int a0), (2, .int b0), (3, .int c0)] d_Waters_calm_18 (by decide) rfl ?_
  refine g_iload C0 0 d_Waters_calm_20 rfl ?_
  refine g_iconst C0 (v := 5) d_Waters_calm_22 (by decide) ?_
  refine g_imul C0 d_Waters_calm_23 ?_
  refine g_iload_n C0 5 d_Waters_calm_24 rfl rfl ?_
  refine g_iadd C0 d_Waters_calm_25 ?_
  refine g_iconst C0 (v := 2) d_Waters_calm_26 (by decide) ?_
  refine g_iadd C0 d_Waters_calm_27 ?_
  obtain ⟨v28, e28, hE⟩ := nm_some hE
  refine g_top e28 ?_
  refine g_istore C0 [(6, .int v28), (5, .int v18), (4, .int v6), (0, .ref (ad 15)), (1, .int a0), (2, .int b0), (3, .int c0)] d_Waters_calm_28 (by decide) rfl ?_
  refine g_iload C0 0 d_Waters_calm_30 rfl ?_
  have hB := ite_some hE
  refine g_if_lt C0 (tgt := 61) d_Waters_calm_32 (by decide) (fun c_ => ?_) (fun c_ => ?_)
  · replace hE := hB.1 c_
    refine g_iload_n C0 4 d_Waters_calm_61 rfl rfl ?_
    obtain rfl := Option.some.inj hE
    exact g_iret C0 hr d_Waters_calm_62
  · replace hE := hB.2 c_
    refine g_iload C0 0 d_Waters_calm_35 rfl ?_
    refine g_aload_n C0 3 d_Waters_calm_37 rfl rfl ?_
    refine g_getr C0 CK_9 0 (by decide) t_200 0 rfl rfl d_Waters_calm_38 ?_
    refine g_alen C0 1 rfl rfl (v := 1920) (by decide) d_Waters_calm_41 ?_
    have hB := ite_some hE
    refine g_icmp_ge C0 (tgt := 61) d_Waters_calm_42 (by decide) (fun c_ => ?_) (fun c_ => ?_)
    · replace hE := hB.1 c_
      refine g_iload_n C0 4 d_Waters_calm_61 rfl rfl ?_
      obtain rfl := Option.some.inj hE
      exact g_iret C0 hr d_Waters_calm_62
    · replace hE := hB.2 c_
      refine g_aload_n C0 3 d_Waters_calm_45 rfl rfl ?_
      refine g_getr C0 CK_9 0 (by decide) t_200 0 rfl rfl d_Waters_calm_46 ?_
      refine g_iload C0 0 d_Waters_calm_49 rfl ?_
      obtain ⟨q51, v51, e51, hE⟩ := gA_some hE
      refine g_iald C0 1 rfl q51 d_Waters_calm_51 ?_
      refine g_top e51 ?_
      refine g_bipush C0 (v := 8) d_Waters_calm_52 (by decide) ?_
      refine g_imul C0 d_Waters_calm_54 ?_
      refine g_iload C0 2 d_Waters_calm_55 rfl ?_
      refine g_iadd C0 d_Waters_calm_57 ?_
      refine g_goto C0 (tgt := 62) d_Waters_calm_58 (by decide) ?_
      obtain rfl := Option.some.inj hE
      exact g_iret C0 hr d_Waters_calm_62
theorem m_Waters_calm (l : Launch) (K : KT) (ad : Nat → Nat) (h : Hp) (a0 : Int32) (b0 : Int32) (c0 : Int32) {res : Int32} (hE : K_Waters_calm a0 b0 c0 h = some res) : ConI l y_Waters_calm prog_11_method_4_code 7 (Option.some Jvm.ClassFile.FieldType.int) rm_Waters_calm K WWaters ad h [.ref (ad 15), .int a0, .int b0, .int c0] res h := fun sz =>
  con_start [(0, .ref (ad 15)), (1, .int a0), (2, .int b0), (3, .int c0)] (by decide +kernel) rfl (Nat.le_of_ble_eq_true rfl) (fun p e s m args below meth c C0 hr hnm hsz => w_Waters_calm C0 hr a0 b0 c0 h hE)
abbrev y_Waters_gust : MethodName := ⟨"CanoeSides$Waters", "gust", "(I)I"⟩
abbrev rm_Waters_gust : Room := { frames := 0, cells := 0, slots := 0, locals := 0 }
theorem cd_Waters_gust : cwd y_Waters_gust 1 := by decide +kernel
theorem d_Waters_gust_0 : decode prog_11_method_5_code 0 = .ok (.iload_n 1, 1) := by decide +kernel
theorem d_Waters_gust_1 : decode prog_11_method_5_code 1 = .ok (.bipush 8, 2) := by decide +kernel
theorem d_Waters_gust_3 : decode prog_11_method_5_code 3 = .ok (.idiv, 1) := by decide +kernel
theorem d_Waters_gust_4 : decode prog_11_method_5_code 4 = .ok (.istore_n 2, 1) := by decide +kernel
theorem d_Waters_gust_5 : decode prog_11_method_5_code 5 = .ok (.iload_n 2, 1) := by decide +kernel
theorem d_Waters_gust_6 : decode prog_11_method_5_code 6 = .ok (.ifCond .lt 29, 3) := by decide +kernel
theorem d_Waters_gust_9 : decode prog_11_method_5_code 9 = .ok (.iload_n 2, 1) := by decide +kernel
theorem d_Waters_gust_10 : decode prog_11_method_5_code 10 = .ok (.aload_n 0, 1) := by decide +kernel
theorem d_Waters_gust_11 : decode prog_11_method_5_code 11 = .ok (.getfield 15, 3) := by decide +kernel
theorem d_Waters_gust_14 : decode prog_11_method_5_code 14 = .ok (.arraylength, 1) := by decide +kernel
theorem d_Waters_gust_15 : decode prog_11_method_5_code 15 = .ok (.if_icmp .ge 20, 3) := by decide +kernel
theorem d_Waters_gust_18 : decode prog_11_method_5_code 18 = .ok (.aload_n 0, 1) := by decide +kernel
theorem d_Waters_gust_19 : decode prog_11_method_5_code 19 = .ok (.getfield 15, 3) := by decide +kernel
theorem d_Waters_gust_22 : decode prog_11_method_5_code 22 = .ok (.iload_n 2, 1) := by decide +kernel
theorem d_Waters_gust_23 : decode prog_11_method_5_code 23 = .ok (.iaload, 1) := by decide +kernel
theorem d_Waters_gust_24 : decode prog_11_method_5_code 24 = .ok (.bipush 8, 2) := by decide +kernel
theorem d_Waters_gust_26 : decode prog_11_method_5_code 26 = .ok (.imul, 1) := by decide +kernel
theorem d_Waters_gust_27 : decode prog_11_method_5_code 27 = .ok (.iload_n 1, 1) := by decide +kernel
theorem d_Waters_gust_28 : decode prog_11_method_5_code 28 = .ok (.bipush 8, 2) := by decide +kernel
theorem d_Waters_gust_30 : decode prog_11_method_5_code 30 = .ok (.irem, 1) := by decide +kernel
theorem d_Waters_gust_31 : decode prog_11_method_5_code 31 = .ok (.iadd, 1) := by decide +kernel
theorem d_Waters_gust_32 : decode prog_11_method_5_code 32 = .ok (.goto 4, 3) := by decide +kernel
theorem d_Waters_gust_35 : decode prog_11_method_5_code 35 = .ok (.iload_n 1, 1) := by decide +kernel
theorem d_Waters_gust_36 : decode prog_11_method_5_code 36 = .ok (.ireturn, 1) := by decide +kernel
theorem w_Waters_gust {p : Program} {l : Launch} {e : Env} {s : State} {m : MethodId} {args : Array Value} {below : List Frame} {meth : Method} {c : Code} {K : KT} {A : Nat → Prop} (C0 : Cx p s m args meth c prog_11_method_5_code "CanoeSides$Waters" 3 K A) (hr : meth.sig.returnType = (Option.some Jvm.ClassFile.FieldType.int)) {ad : Nat → Nat} (a0 : Int32) (h : Hp) {res : Int32} (hE : K_Waters_gust a0 h = some res) : G p l e rm_Waters_gust s m args below meth c K A WWaters 3 0 0 (QI s args below K A WWaters 0 0 ad res h) 0 [(0, .ref (ad 15)), (1, .int a0)] [] ad h := by
  unfold K_Waters_gust at hE
  refine g_iload_n C0 1 d_Waters_gust_0 rfl rfl ?_
  refine g_bipush C0 (v := 8) d_Waters_gust_1 (by decide) ?_
  refine g_idiv C0 d_Waters_gust_3 (by decide) ?_
  obtain ⟨v4, e4, hE⟩ := nm_some hE
  refine g_top e4 ?_
  refine g_istore_n C0 [(2, .int v4), (0, .ref (ad 15)), (1, .int a0)] d_Waters_gust_4 rfl (by decide) rfl ?_
  refine g_iload_n C0 0 d_Waters_gust_5 rfl rfl ?_
  have hB := ite_some hE
  refine g_if_lt C0 (tgt := 35) d_Waters_gust_6 (by decide) (fun c_ => ?_) (fun c_ => ?_)
  · replace hE := hB.1 c_
    refine g_iload_n C0 2 d_Waters_gust_35 rfl rfl ?_
    obtain rfl := Option.some.inj hE
    exact g_iret C0 hr d_Waters_gust_36
  · replace hE := hB.2 c_
    refine g_iload_n C0 0 d_Waters_gust_9 rfl rfl ?_
    refine g_aload_n C0 1 d_Waters_gust_10 rfl rfl ?_
    refine g_getr C0 CK_9 1 (by decide) t_201 0 rfl rfl d_Waters_gust_11 ?_
    refine g_alen C0 2 rfl rfl (v := 48) (by decide) d_Waters_gust_14 ?_
    have hB := ite_some hE
    refine g_icmp_ge C0 (tgt := 35) d_Waters_gust_15 (by decide) (fun c_ => ?_) (fun c_ => ?_)
    · replace hE := hB.1 c_
      refine g_iload_n C0 2 d_Waters_gust_35 rfl rfl ?_
      obtain rfl := Option.some.inj hE
      exact g_iret C0 hr d_Waters_gust_36
    · replace hE := hB.2 c_
      refine g_aload_n C0 1 d_Waters_gust_18 rfl rfl ?_
      refine g_getr C0 CK_9 1 (by decide) t_201 0 rfl rfl d_Waters_gust_19 ?_
      refine g_iload_n C0 0 d_Waters_gust_22 rfl rfl ?_
      obtain ⟨q23, v23, e23, hE⟩ := gA_some hE
      refine g_iald C0 2 rfl q23 d_Waters_gust_23 ?_
      refine g_top e23 ?_
      refine g_bipush C0 (v := 8) d_Waters_gust_24 (by decide) ?_
      refine g_imul C0 d_Waters_gust_26 ?_
      refine g_iload_n C0 2 d_Waters_gust_27 rfl rfl ?_
      refine g_bipush C0 (v := 8) d_Waters_gust_28 (by decide) ?_
      refine g_irem C0 d_Waters_gust_30 (by decide) ?_
      refine g_iadd C0 d_Waters_gust_31 ?_
      refine g_goto C0 (tgt := 36) d_Waters_gust_32 (by decide) ?_
      obtain rfl := Option.some.inj hE
      exact g_iret C0 hr d_Waters_gust_36
theorem m_Waters_gust (l : Launch) (K : KT) (ad : Nat → Nat) (h : Hp) (a0 : Int32) {res : Int32} (hE : K_Waters_gust a0 h = some res) : ConI l y_Waters_gust prog_11_method_5_code 3 (Option.some Jvm.ClassFile.FieldType.int) rm_Waters_gust K WWaters ad h [.ref (ad 15), .int a0] res h := fun sz =>
  con_start [(0, .ref (ad 15)), (1, .int a0)] (by decide +kernel) rfl (Nat.le_of_ble_eq_true rfl) (fun p e s m args below meth c C0 hr hnm hsz => w_Waters_gust C0 hr a0 h hE)
abbrev y_Waters_after : MethodName := ⟨"CanoeSides$Waters", "after", "(III)I"⟩
abbrev rm_Waters_after : Room := { frames := 1, cells := 0, slots := 0, locals := 26 }
theorem cd_Waters_after : cwd y_Waters_after 3 := by decide +kernel
theorem d_Waters_after_0 : decode prog_11_method_6_code 0 = .ok (.iload_n 1, 1) := by decide +kernel
theorem d_Waters_after_1 : decode prog_11_method_6_code 1 = .ok (.sipush 384, 3) := by decide +kernel
theorem d_Waters_after_4 : decode prog_11_method_6_code 4 = .ok (.idiv, 1) := by decide +kernel
theorem d_Waters_after_5 : decode prog_11_method_6_code 5 = .ok (.iconst 1, 1) := by decide +kernel
theorem d_Waters_after_6 : decode prog_11_method_6_code 6 = .ok (.iadd, 1) := by decide +kernel
theorem d_Waters_after_7 : decode prog_11_method_6_code 7 = .ok (.istore 4, 2) := by decide +kernel
theorem d_Waters_after_9 : decode prog_11_method_6_code 9 = .ok (.aload_n 0, 1) := by decide +kernel
theorem d_Waters_after_10 : decode prog_11_method_6_code 10 = .ok (.iload_n 1, 1) := by decide +kernel
theorem d_Waters_after_11 : decode prog_11_method_6_code 11 = .ok (.sipush 384, 3) := by decide +kernel
theorem d_Waters_after_14 : decode prog_11_method_6_code 14 = .ok (.irem, 1) := by decide +kernel
theorem d_Waters_after_15 : decode prog_11_method_6_code 15 = .ok (.iload_n 2, 1) := by decide +kernel
theorem d_Waters_after_16 : decode prog_11_method_6_code 16 = .ok (.iload_n 3, 1) := by decide +kernel
theorem d_Waters_after_17 : decode prog_11_method_6_code 17 = .ok (.invokevirtual 40, 3) := by decide +kernel
theorem d_Waters_after_20 : decode prog_11_method_6_code 20 = .ok (.istore 5, 2) := by decide +kernel
theorem d_Waters_after_22 : decode prog_11_method_6_code 22 = .ok (.iload 4, 2) := by decide +kernel
theorem d_Waters_after_24 : decode prog_11_method_6_code 24 = .ok (.aload_n 0, 1) := by decide +kernel
theorem d_Waters_after_25 : decode prog_11_method_6_code 25 = .ok (.getfield 18, 3) := by decide +kernel
theorem d_Waters_after_28 : decode prog_11_method_6_code 28 = .ok (.if_icmp .ge 15, 3) := by decide +kernel
theorem d_Waters_after_31 : decode prog_11_method_6_code 31 = .ok (.iload 4, 2) := by decide +kernel
theorem d_Waters_after_33 : decode prog_11_method_6_code 33 = .ok (.sipush 384, 3) := by decide +kernel
theorem d_Waters_after_36 : decode prog_11_method_6_code 36 = .ok (.imul, 1) := by decide +kernel
theorem d_Waters_after_37 : decode prog_11_method_6_code 37 = .ok (.iload 5, 2) := by decide +kernel
theorem d_Waters_after_39 : decode prog_11_method_6_code 39 = .ok (.iadd, 1) := by decide +kernel
theorem d_Waters_after_40 : decode prog_11_method_6_code 40 = .ok (.goto 9, 3) := by decide +kernel
theorem d_Waters_after_43 : decode prog_11_method_6_code 43 = .ok (.aload_n 0, 1) := by decide +kernel
theorem d_Waters_after_44 : decode prog_11_method_6_code 44 = .ok (.iload 5, 2) := by decide +kernel
theorem d_Waters_after_46 : decode prog_11_method_6_code 46 = .ok (.invokevirtual 43, 3) := by decide +kernel
theorem d_Waters_after_49 : decode prog_11_method_6_code 49 = .ok (.ireturn, 1) := by decide +kernel
theorem w_Waters_after {p : Program} {l : Launch} {e : Env} {s : State} {m : MethodId} {args : Array Value} {below : List Frame} {meth : Method} {c : Code} {K : KT} {A : Nat → Prop} (C0 : Cx p s m args meth c prog_11_method_6_code "CanoeSides$Waters" 6 K A) (hr : meth.sig.returnType = (Option.some Jvm.ClassFile.FieldType.int)) {ad : Nat → Nat} (a0 : Int32) (b0 : Int32) (c0 : Int32) (h : Hp) {res : Int32} (hE : K_Waters_after a0 b0 c0 h = some res) : G p l e rm_Waters_after s m args below meth c K A WWaters 6 0 0 (QI s args below K A WWaters 0 0 ad res h) 0 [(0, .ref (ad 15)), (1, .int a0), (2, .int b0), (3, .int c0)] [] ad h := by
  unfold K_Waters_after at hE
  refine g_iload_n C0 1 d_Waters_after_0 rfl rfl ?_
  refine g_sipush C0 (v := 384) d_Waters_after_1 (by decide) ?_
  refine g_idiv C0 d_Waters_after_4 (by decide) ?_
  refine g_iconst C0 (v := 1) d_Waters_after_5 (by decide) ?_
  refine g_iadd C0 d_Waters_after_6 ?_
  obtain ⟨v7, e7, hE⟩ := nm_some hE
  refine g_top e7 ?_
  refine g_istore C0 [(4, .int v7), (0, .ref (ad 15)), (1, .int a0), (2, .int b0), (3, .int c0)] d_Waters_after_7 (by decide) rfl ?_
  refine g_aload_n C0 1 d_Waters_after_9 rfl rfl ?_
  refine g_iload_n C0 2 d_Waters_after_10 rfl rfl ?_
  refine g_sipush C0 (v := 384) d_Waters_after_11 (by decide) ?_
  refine g_irem C0 d_Waters_after_14 (by decide) ?_
  refine g_iload_n C0 3 d_Waters_after_15 rfl rfl ?_
  refine g_iload_n C0 4 d_Waters_after_16 rfl rfl ?_
  obtain ⟨v17, z17, hE⟩ := bd_some hE
  refine g_calliP C0 nd_Waters [15, 16, 17] rfl (sbW_self WWaters) (runV C0 (m_Waters_calm l K ad h (rm32 a0 384) b0 c0 z17) 3 rfl ⟨t_788, t_789, t_790, t_88, t_791⟩ cd_Waters_calm (by decide) 0 rfl rfl (sbW_self WWaters) nd_Waters rfl rfl (Nat.le_of_ble_eq_true rfl) d_Waters_after_17) ?_
  refine g_istore C0 [(5, .int v17), (4, .int v7), (0, .ref (ad 15)), (1, .int a0), (2, .int b0), (3, .int c0)] d_Waters_after_20 (by decide) rfl ?_
  refine g_iload C0 1 d_Waters_after_22 rfl ?_
  refine g_aload_n C0 2 d_Waters_after_24 rfl rfl ?_
  refine g_geti C0 CK_9 2 (by decide) t_202 0 rfl rfl d_Waters_after_25 ?_
  have hB := ite_some hE
  refine g_icmp_ge C0 (tgt := 43) d_Waters_after_28 (by decide) (fun c_ => ?_) (fun c_ => ?_)
  · replace hE := hB.1 c_
    refine g_aload_n C0 2 d_Waters_after_43 rfl rfl ?_
    refine g_iload C0 0 d_Waters_after_44 rfl ?_
    obtain ⟨v46, z46, hE⟩ := bd_some hE
    refine g_calliP C0 nd_Waters [15, 16, 17] rfl (sbW_self WWaters) (runV C0 (m_Waters_gust l K ad h v17 z46) 1 rfl ⟨t_792, t_793, t_794, t_88, t_795⟩ cd_Waters_gust (by decide) 0 rfl rfl (sbW_self WWaters) nd_Waters rfl rfl (Nat.le_of_ble_eq_true rfl) d_Waters_after_46) ?_
    obtain rfl := Option.some.inj hE
    exact g_iret C0 hr d_Waters_after_49
  · replace hE := hB.2 c_
    refine g_iload C0 1 d_Waters_after_31 rfl ?_
    refine g_sipush C0 (v := 384) d_Waters_after_33 (by decide) ?_
    refine g_imul C0 d_Waters_after_36 ?_
    refine g_iload C0 0 d_Waters_after_37 rfl ?_
    refine g_iadd C0 d_Waters_after_39 ?_
    refine g_goto C0 (tgt := 49) d_Waters_after_40 (by decide) ?_
    obtain rfl := Option.some.inj hE
    exact g_iret C0 hr d_Waters_after_49
theorem m_Waters_after (l : Launch) (K : KT) (ad : Nat → Nat) (h : Hp) (a0 : Int32) (b0 : Int32) (c0 : Int32) {res : Int32} (hE : K_Waters_after a0 b0 c0 h = some res) : ConI l y_Waters_after prog_11_method_6_code 6 (Option.some Jvm.ClassFile.FieldType.int) rm_Waters_after K WWaters ad h [.ref (ad 15), .int a0, .int b0, .int c0] res h := fun sz =>
  con_start [(0, .ref (ad 15)), (1, .int a0), (2, .int b0), (3, .int c0)] (by decide +kernel) rfl (Nat.le_of_ble_eq_true rfl) (fun p e s m args below meth c C0 hr hnm hsz => w_Waters_after C0 hr a0 b0 c0 h hE)
abbrev y_Crew_after : MethodName := ⟨"CanoeSides$Crew", "after", "(II)I"⟩
abbrev rm_Crew_after : Room := { frames := 2, cells := 0, slots := 0, locals := 51 }
theorem cd_Crew_after : cwd y_Crew_after 2 := by decide +kernel
theorem d_Crew_after_0 : decode prog_4_method_8_code 0 = .ok (.aload_n 0, 1) := by decide +kernel
theorem d_Crew_after_1 : decode prog_4_method_8_code 1 = .ok (.getfield 18, 3) := by decide +kernel
theorem d_Crew_after_4 : decode prog_4_method_8_code 4 = .ok (.iload_n 1, 1) := by decide +kernel
theorem d_Crew_after_5 : decode prog_4_method_8_code 5 = .ok (.aload_n 0, 1) := by decide +kernel
theorem d_Crew_after_6 : decode prog_4_method_8_code 6 = .ok (.iload_n 2, 1) := by decide +kernel
theorem d_Crew_after_7 : decode prog_4_method_8_code 7 = .ok (.invokevirtual 53, 3) := by decide +kernel
theorem d_Crew_after_10 : decode prog_4_method_8_code 10 = .ok (.aload_n 0, 1) := by decide +kernel
theorem d_Crew_after_11 : decode prog_4_method_8_code 11 = .ok (.iload_n 2, 1) := by decide +kernel
theorem d_Crew_after_12 : decode prog_4_method_8_code 12 = .ok (.invokevirtual 56, 3) := by decide +kernel
theorem d_Crew_after_15 : decode prog_4_method_8_code 15 = .ok (.invokevirtual 65, 3) := by decide +kernel
theorem d_Crew_after_18 : decode prog_4_method_8_code 18 = .ok (.ireturn, 1) := by decide +kernel
theorem w_Crew_after {p : Program} {l : Launch} {e : Env} {s : State} {m : MethodId} {args : Array Value} {below : List Frame} {meth : Method} {c : Code} {K : KT} {A : Nat → Prop} (C0 : Cx p s m args meth c prog_4_method_8_code "CanoeSides$Crew" 3 K A) (hr : meth.sig.returnType = (Option.some Jvm.ClassFile.FieldType.int)) {ad : Nat → Nat} (a0 : Int32) (b0 : Int32) (h : Hp) {res : Int32} (hE : K_Crew_after a0 b0 h = some res) : G p l e rm_Crew_after s m args below meth c K A WCrew 3 0 0 (QI s args below K A WCrew 0 0 ad res h) 0 [(0, .ref (ad 20)), (1, .int a0), (2, .int b0)] [] ad h := by
  unfold K_Crew_after at hE
  refine g_aload_n C0 0 d_Crew_after_0 rfl rfl ?_
  refine g_getr C0 CK_2 0 (by decide) t_216 0 rfl rfl d_Crew_after_1 ?_
  refine g_iload_n C0 1 d_Crew_after_4 rfl rfl ?_
  refine g_aload_n C0 0 d_Crew_after_5 rfl rfl ?_
  refine g_iload_n C0 2 d_Crew_after_6 rfl rfl ?_
  obtain ⟨v7, z7, hE⟩ := bd_some hE
  refine g_calliP C0 nd_Crew [20, 21, 22, 15, 16, 17] rfl (sbW_self WCrew) (runV C0 (m_Crew_turnOf l K ad h b0 z7) 1 rfl ⟨t_776, t_777, t_778, t_89, t_779⟩ cd_Crew_turnOf (by decide) 0 rfl rfl (sbW_self WCrew) nd_Crew rfl rfl (Nat.le_of_ble_eq_true rfl) d_Crew_after_7) ?_
  refine g_aload_n C0 0 d_Crew_after_10 rfl rfl ?_
  refine g_iload_n C0 2 d_Crew_after_11 rfl rfl ?_
  obtain ⟨v12, z12, hE⟩ := bd_some hE
  refine g_calliP C0 nd_Crew [20, 21, 22, 15, 16, 17] rfl (sbW_self WCrew) (runV C0 (m_Crew_pushOf l K ad h b0 z12) 1 rfl ⟨t_780, t_781, t_782, t_89, t_783⟩ cd_Crew_pushOf (by decide) 0 rfl rfl (sbW_self WCrew) nd_Crew rfl rfl (Nat.le_of_ble_eq_true rfl) d_Crew_after_12) ?_
  obtain ⟨v15, z15, hE⟩ := bd_some hE
  refine g_calliP C0 nd_Crew [15, 16, 17] rfl (sb_Waters_Crew) (runV C0 (m_Waters_after l K ad h a0 v7 v12 z15) 3 rfl ⟨t_784, t_785, t_786, t_88, t_787⟩ cd_Waters_after (by decide) 3 rfl rfl (sb_Waters_Crew) nd_Waters rfl rfl (Nat.le_of_ble_eq_true rfl) d_Crew_after_15) ?_
  obtain rfl := Option.some.inj hE
  exact g_iret C0 hr d_Crew_after_18
theorem m_Crew_after (l : Launch) (K : KT) (ad : Nat → Nat) (h : Hp) (a0 : Int32) (b0 : Int32) {res : Int32} (hE : K_Crew_after a0 b0 h = some res) : ConI l y_Crew_after prog_4_method_8_code 3 (Option.some Jvm.ClassFile.FieldType.int) rm_Crew_after K WCrew ad h [.ref (ad 20), .int a0, .int b0] res h := fun sz =>
  con_start [(0, .ref (ad 20)), (1, .int a0), (2, .int b0)] (by decide +kernel) rfl (Nat.le_of_ble_eq_true rfl) (fun p e s m args below meth c C0 hr hnm hsz => w_Crew_after C0 hr a0 b0 h hE)
abbrev y_Calling_goOn : MethodName := ⟨"CanoeSides$Calling", "goOn", "(LCanoeSides$River;LCanoeSides$Crew;III)V"⟩
abbrev rm_Calling_goOn : Room := { frames := 3, cells := 0, slots := 0, locals := 73 }
theorem cd_Calling_goOn : cwd y_Calling_goOn 5 := by decide +kernel
theorem d_Calling_goOn_0 : decode prog_3_method_7_code 0 = .ok (.iload_n 3, 1) := by decide +kernel
theorem d_Calling_goOn_1 : decode prog_3_method_7_code 1 = .ok (.istore 6, 2) := by decide +kernel
theorem d_Calling_goOn_3 : decode prog_3_method_7_code 3 = .ok (.iload 4, 2) := by decide +kernel
theorem d_Calling_goOn_5 : decode prog_3_method_7_code 5 = .ok (.iconst 1, 1) := by decide +kernel
theorem d_Calling_goOn_6 : decode prog_3_method_7_code 6 = .ok (.iadd, 1) := by decide +kernel
theorem d_Calling_goOn_7 : decode prog_3_method_7_code 7 = .ok (.istore 7, 2) := by decide +kernel
theorem d_Calling_goOn_9 : decode prog_3_method_7_code 9 = .ok (.iload 7, 2) := by decide +kernel
theorem d_Calling_goOn_11 : decode prog_3_method_7_code 11 = .ok (.bipush 60, 2) := by decide +kernel
theorem d_Calling_goOn_13 : decode prog_3_method_7_code 13 = .ok (.if_icmp .gt 130, 3) := by decide +kernel
theorem d_Calling_goOn_16 : decode prog_3_method_7_code 16 = .ok (.aload_n 2, 1) := by decide +kernel
theorem d_Calling_goOn_17 : decode prog_3_method_7_code 17 = .ok (.iload 6, 2) := by decide +kernel
theorem d_Calling_goOn_19 : decode prog_3_method_7_code 19 = .ok (.iload 5, 2) := by decide +kernel
theorem d_Calling_goOn_21 : decode prog_3_method_7_code 21 = .ok (.invokevirtual 71, 3) := by decide +kernel
theorem d_Calling_goOn_24 : decode prog_3_method_7_code 24 = .ok (.istore 6, 2) := by decide +kernel
theorem d_Calling_goOn_26 : decode prog_3_method_7_code 26 = .ok (.aload_n 0, 1) := by decide +kernel
theorem d_Calling_goOn_27 : decode prog_3_method_7_code 27 = .ok (.getfield 24, 3) := by decide +kernel
theorem d_Calling_goOn_30 : decode prog_3_method_7_code 30 = .ok (.bipush 64, 2) := by decide +kernel
theorem d_Calling_goOn_32 : decode prog_3_method_7_code 32 = .ok (.imul, 1) := by decide +kernel
theorem d_Calling_goOn_33 : decode prog_3_method_7_code 33 = .ok (.bipush 64, 2) := by decide +kernel
theorem d_Calling_goOn_35 : decode prog_3_method_7_code 35 = .ok (.iadd, 1) := by decide +kernel
theorem d_Calling_goOn_36 : decode prog_3_method_7_code 36 = .ok (.iconst 1, 1) := by decide +kernel
theorem d_Calling_goOn_37 : decode prog_3_method_7_code 37 = .ok (.isub, 1) := by decide +kernel
theorem d_Calling_goOn_38 : decode prog_3_method_7_code 38 = .ok (.iload 7, 2) := by decide +kernel
theorem d_Calling_goOn_40 : decode prog_3_method_7_code 40 = .ok (.isub, 1) := by decide +kernel
theorem d_Calling_goOn_41 : decode prog_3_method_7_code 41 = .ok (.istore 8, 2) := by decide +kernel
theorem d_Calling_goOn_43 : decode prog_3_method_7_code 43 = .ok (.iload 6, 2) := by decide +kernel
theorem d_Calling_goOn_45 : decode prog_3_method_7_code 45 = .ok (.ifCond .lt 35, 3) := by decide +kernel
theorem d_Calling_goOn_48 : decode prog_3_method_7_code 48 = .ok (.iload 6, 2) := by decide +kernel
theorem d_Calling_goOn_50 : decode prog_3_method_7_code 50 = .ok (.sipush 3456, 3) := by decide +kernel
theorem d_Calling_goOn_53 : decode prog_3_method_7_code 53 = .ok (.if_icmp .ge 27, 3) := by decide +kernel
theorem d_Calling_goOn_56 : decode prog_3_method_7_code 56 = .ok (.aload_n 0, 1) := by decide +kernel
theorem d_Calling_goOn_57 : decode prog_3_method_7_code 57 = .ok (.getfield 9, 3) := by decide +kernel
theorem d_Calling_goOn_60 : decode prog_3_method_7_code 60 = .ok (.iload 6, 2) := by decide +kernel
theorem d_Calling_goOn_62 : decode prog_3_method_7_code 62 = .ok (.iaload, 1) := by decide +kernel
theorem d_Calling_goOn_63 : decode prog_3_method_7_code 63 = .ok (.iload 7, 2) := by decide +kernel
theorem d_Calling_goOn_65 : decode prog_3_method_7_code 65 = .ok (.if_icmp .le 15, 3) := by decide +kernel
theorem d_Calling_goOn_68 : decode prog_3_method_7_code 68 = .ok (.aload_n 0, 1) := by decide +kernel
theorem d_Calling_goOn_69 : decode prog_3_method_7_code 69 = .ok (.getfield 18, 3) := by decide +kernel
theorem d_Calling_goOn_72 : decode prog_3_method_7_code 72 = .ok (.iload 6, 2) := by decide +kernel
theorem d_Calling_goOn_74 : decode prog_3_method_7_code 74 = .ok (.iaload, 1) := by decide +kernel
theorem d_Calling_goOn_75 : decode prog_3_method_7_code 75 = .ok (.iload 8, 2) := by decide +kernel
theorem d_Calling_goOn_77 : decode prog_3_method_7_code 77 = .ok (.if_icmp .lt 4, 3) := by decide +kernel
theorem d_Calling_goOn_80 : decode prog_3_method_7_code 80 = .ok (.return_, 1) := by decide +kernel
theorem d_Calling_goOn_81 : decode prog_3_method_7_code 81 = .ok (.aload_n 0, 1) := by decide +kernel
theorem d_Calling_goOn_82 : decode prog_3_method_7_code 82 = .ok (.getfield 18, 3) := by decide +kernel
theorem d_Calling_goOn_85 : decode prog_3_method_7_code 85 = .ok (.iload 6, 2) := by decide +kernel
theorem d_Calling_goOn_87 : decode prog_3_method_7_code 87 = .ok (.iload 8, 2) := by decide +kernel
theorem d_Calling_goOn_89 : decode prog_3_method_7_code 89 = .ok (.iastore, 1) := by decide +kernel
theorem d_Calling_goOn_90 : decode prog_3_method_7_code 90 = .ok (.aload_n 0, 1) := by decide +kernel
theorem d_Calling_goOn_91 : decode prog_3_method_7_code 91 = .ok (.getfield 15, 3) := by decide +kernel
theorem d_Calling_goOn_94 : decode prog_3_method_7_code 94 = .ok (.iload 6, 2) := by decide +kernel
theorem d_Calling_goOn_96 : decode prog_3_method_7_code 96 = .ok (.aload_n 0, 1) := by decide +kernel
theorem d_Calling_goOn_97 : decode prog_3_method_7_code 97 = .ok (.getfield 15, 3) := by decide +kernel
theorem d_Calling_goOn_100 : decode prog_3_method_7_code 100 = .ok (.iload 6, 2) := by decide +kernel
theorem d_Calling_goOn_102 : decode prog_3_method_7_code 102 = .ok (.iaload, 1) := by decide +kernel
theorem d_Calling_goOn_103 : decode prog_3_method_7_code 103 = .ok (.iload 7, 2) := by decide +kernel
theorem d_Calling_goOn_105 : decode prog_3_method_7_code 105 = .ok (.invokestatic 77, 3) := by decide +kernel
theorem d_Calling_goOn_108 : decode prog_3_method_7_code 108 = .ok (.iastore, 1) := by decide +kernel
theorem d_Calling_goOn_109 : decode prog_3_method_7_code 109 = .ok (.iload 7, 2) := by decide +kernel
theorem d_Calling_goOn_111 : decode prog_3_method_7_code 111 = .ok (.aload_n 0, 1) := by decide +kernel
theorem d_Calling_goOn_112 : decode prog_3_method_7_code 112 = .ok (.getfield 28, 3) := by decide +kernel
theorem d_Calling_goOn_115 : decode prog_3_method_7_code 115 = .ok (.if_icmp .ge 22, 3) := by decide +kernel
theorem d_Calling_goOn_118 : decode prog_3_method_7_code 118 = .ok (.aload_n 1, 1) := by decide +kernel
theorem d_Calling_goOn_119 : decode prog_3_method_7_code 119 = .ok (.iload 6, 2) := by decide +kernel
theorem d_Calling_goOn_121 : decode prog_3_method_7_code 121 = .ok (.sipush 384, 3) := by decide +kernel
theorem d_Calling_goOn_124 : decode prog_3_method_7_code 124 = .ok (.irem, 1) := by decide +kernel
theorem d_Calling_goOn_125 : decode prog_3_method_7_code 125 = .ok (.invokevirtual 51, 3) := by decide +kernel
theorem d_Calling_goOn_128 : decode prog_3_method_7_code 128 = .ok (.ifCond .eq 9, 3) := by decide +kernel
theorem d_Calling_goOn_131 : decode prog_3_method_7_code 131 = .ok (.aload_n 0, 1) := by decide +kernel
theorem d_Calling_goOn_132 : decode prog_3_method_7_code 132 = .ok (.iload 7, 2) := by decide +kernel
theorem d_Calling_goOn_134 : decode prog_3_method_7_code 134 = .ok (.putfield 28, 3) := by decide +kernel
theorem d_Calling_goOn_137 : decode prog_3_method_7_code 137 = .ok (.iinc 7 1, 3) := by decide +kernel
theorem d_Calling_goOn_140 : decode prog_3_method_7_code 140 = .ok (.goto (-131), 3) := by decide +kernel
theorem d_Calling_goOn_143 : decode prog_3_method_7_code 143 = .ok (.return_, 1) := by decide +kernel
theorem w_Calling_goOn_L9 {p : Program} {l : Launch} {e : Env} {s : State} {m : MethodId} {args : Array Value} {below : List Frame} {meth : Method} {c : Code} {K : KT} {A : Nat → Prop} {Q : State → Prop} (C0 : Cx p s m args meth c prog_3_method_7_code "CanoeSides$Calling" 9 K A) (hr : meth.sig.returnType = (Option.none : Option Jvm.ClassFile.FieldType)) {ad : Nat → Nat} (N : Nat) (x5 : Int32) (x6 : Int32) (x7 : Int32) (h : Hp) {x_ : (Int32 × Int32 × Hp) ⊕ (Hp) ⊕ (Hp)} (hE : K_Calling_goOn_L9 N x5 x6 x7 h = some x_) (hk1 : ∀ z_, x_ = .inl z_ → G p l e rm_Calling_goOn s m args below meth c K A WCalling 9 0 0 Q 9 [(0, .ref (ad 45)), (1, .ref (ad 10)), (2, .ref (ad 20)), (5, .int x5), (6, .int z_.1), (7, .int z_.2.1)] [] ad z_.2.2) (hk2 : ∀ r_, x_ = .inr (.inl r_) → Q = (QV s args below K A WCalling 0 0 ad r_)) (hk3 : ∀ z_, x_ = .inr (.inr z_) → G p l e rm_Calling_goOn s m args below meth c K A WCalling 9 0 0 Q 143 [] [] ad z_) : G p l e rm_Calling_goOn s m args below meth c K A WCalling 9 0 0 Q 9 [(0, .ref (ad 45)), (1, .ref (ad 10)), (2, .ref (ad 20)), (5, .int x5), (6, .int x6), (7, .int x7)] [] ad h := by
  unfold K_Calling_goOn_L9 at hE
  refine g_iload C0 5 d_Calling_goOn_9 rfl ?_
  refine g_bipush C0 (v := 60) d_Calling_goOn_11 (by decide) ?_
  have hB := ite_some hE
  refine g_icmp_gt C0 (tgt := 143) d_Calling_goOn_13 (by decide) (fun c_ => ?_) (fun c_ => ?_)
  · replace hE := hB.1 c_
    refine g_sub [] (L' := []) rfl ?_
    exact hk3 _ (Option.some.inj hE).symm
  · replace hE := hB.2 c_
    refine g_aload_n C0 2 d_Calling_goOn_16 rfl rfl ?_
    refine g_iload C0 4 d_Calling_goOn_17 rfl ?_
    refine g_iload C0 3 d_Calling_goOn_19 rfl ?_
    obtain ⟨v21, z21, hE⟩ := bd_some hE
    refine g_calliP C0 nd_Calling [20, 21, 22, 15, 16, 17] rfl (sb_Crew_Calling) (runV C0 (m_Crew_after l K ad h x6 x5 z21) 2 rfl ⟨t_883, t_773, t_774, t_89, t_775⟩ cd_Crew_after (by decide) 8 rfl rfl (sb_Crew_Calling) nd_Crew rfl rfl (Nat.le_of_ble_eq_true rfl) d_Calling_goOn_21) ?_
    refine g_istore C0 [(6, .int v21), (0, .ref (ad 45)), (1, .ref (ad 10)), (2, .ref (ad 20)), (5, .int x5), (7, .int x7)] d_Calling_goOn_24 (by decide) rfl ?_
    refine g_aload_n C0 1 d_Calling_goOn_26 rfl rfl ?_
    refine g_geti C0 CK_1 4 (by decide) t_331 0 rfl rfl d_Calling_goOn_27 ?_
    refine g_bipush C0 (v := 64) d_Calling_goOn_30 (by decide) ?_
    refine g_imul C0 d_Calling_goOn_32 ?_
    refine g_bipush C0 (v := 64) d_Calling_goOn_33 (by decide) ?_
    refine g_iadd C0 d_Calling_goOn_35 ?_
    refine g_iconst C0 (v := 1) d_Calling_goOn_36 (by decide) ?_
    refine g_isub C0 d_Calling_goOn_37 ?_
    refine g_iload C0 5 d_Calling_goOn_38 rfl ?_
    refine g_isub C0 d_Calling_goOn_40 ?_
    obtain ⟨v41, e41, hE⟩ := nm_some hE
    refine g_top e41 ?_
    refine g_istore C0 [(8, .int v41), (6, .int v21), (0, .ref (ad 45)), (1, .ref (ad 10)), (2, .ref (ad 20)), (5, .int x5), (7, .int x7)] d_Calling_goOn_41 (by decide) rfl ?_
    refine g_iload C0 1 d_Calling_goOn_43 rfl ?_
    have hB := ite_some hE
    refine g_if_lt C0 (tgt := 80) d_Calling_goOn_45 (by decide) (fun c_ => ?_) (fun c_ => ?_)
    · replace hE := hB.1 c_
      have hq := hk2 _ (Option.some.inj hE).symm
      rw [hq]
      exact g_vret C0 hr d_Calling_goOn_80
    · replace hE := hB.2 c_
      refine g_iload C0 1 d_Calling_goOn_48 rfl ?_
      refine g_sipush C0 (v := 3456) d_Calling_goOn_50 (by decide) ?_
      have hB := ite_some hE
      refine g_icmp_ge C0 (tgt := 80) d_Calling_goOn_53 (by decide) (fun c_ => ?_) (fun c_ => ?_)
      · replace hE := hB.1 c_
        have hq := hk2 _ (Option.some.inj hE).symm
        rw [hq]
        exact g_vret C0 hr d_Calling_goOn_80
      · replace hE := hB.2 c_
        refine g_aload_n C0 2 d_Calling_goOn_56 rfl rfl ?_
        refine g_getr C0 CK_1 0 (by decide) t_327 0 rfl rfl d_Calling_goOn_57 ?_
        refine g_iload C0 1 d_Calling_goOn_60 rfl ?_
        obtain ⟨q62, v62, e62, hE⟩ := gA_some hE
        refine g_iald C0 1 rfl q62 d_Calling_goOn_62 ?_
        refine g_top e62 ?_
        refine g_iload C0 6 d_Calling_goOn_63 rfl ?_
        have hB := ite_some hE
        refine g_icmp_le C0 (tgt := 80) d_Calling_goOn_65 (by decide) (fun c_ => ?_) (fun c_ => ?_)
        · replace hE := hB.1 c_
          have hq := hk2 _ (Option.some.inj hE).symm
          rw [hq]
          exact g_vret C0 hr d_Calling_goOn_80
        · replace hE := hB.2 c_
          refine g_aload_n C0 2 d_Calling_goOn_68 rfl rfl ?_
          refine g_getr C0 CK_1 2 (by decide) t_329 0 rfl rfl d_Calling_goOn_69 ?_
          refine g_iload C0 1 d_Calling_goOn_72 rfl ?_
          obtain ⟨q74, v74, e74, hE⟩ := gA_some hE
          refine g_iald C0 3 rfl q74 d_Calling_goOn_74 ?_
          refine g_top e74 ?_
          refine g_iload C0 0 d_Calling_goOn_75 rfl ?_
          have hB := ite_some hE
          refine g_icmp_lt C0 (tgt := 81) d_Calling_goOn_77 (by decide) (fun c_ => ?_) (fun c_ => ?_)
          · replace hE := hB.1 c_
            refine g_aload_n C0 2 d_Calling_goOn_81 rfl rfl ?_
            refine g_getr C0 CK_1 2 (by decide) t_329 0 rfl rfl d_Calling_goOn_82 ?_
            refine g_iload C0 1 d_Calling_goOn_85 rfl ?_
            refine g_iload C0 0 d_Calling_goOn_87 rfl ?_
            obtain ⟨q89, hE⟩ := sA_some hE
            obtain ⟨h89, e89, hE⟩ := nm_some hE
            refine g_iast C0 3 rfl nd_Calling q89 d_Calling_goOn_89 ?_
            refine g_heap e89 ?_
            refine g_aload_n C0 2 d_Calling_goOn_90 rfl rfl ?_
            refine g_getr C0 CK_1 1 (by decide) t_328 0 rfl rfl d_Calling_goOn_91 ?_
            refine g_iload C0 1 d_Calling_goOn_94 rfl ?_
            refine g_aload_n C0 2 d_Calling_goOn_96 rfl rfl ?_
            refine g_getr C0 CK_1 1 (by decide) t_328 0 rfl rfl d_Calling_goOn_97 ?_
            refine g_iload C0 1 d_Calling_goOn_100 rfl ?_
            obtain ⟨q102, v102, e102, hE⟩ := gA_some hE
            refine g_iald C0 2 rfl q102 d_Calling_goOn_102 ?_
            refine g_top e102 ?_
            refine g_iload C0 6 d_Calling_goOn_103 rfl ?_
            refine g_min C0 t_884 ⟨Nat.le_of_ble_eq_true rfl, Nat.le_of_ble_eq_true rfl, Nat.zero_le _, Nat.zero_le _⟩ d_Calling_goOn_105 ?_
            obtain ⟨q108, hE⟩ := sA_some hE
            obtain ⟨h108, e108, hE⟩ := nm_some hE
            refine g_iast C0 2 rfl nd_Calling q108 d_Calling_goOn_108 ?_
            refine g_heap e108 ?_
            refine g_iload C0 6 d_Calling_goOn_109 rfl ?_
            refine g_aload_n C0 2 d_Calling_goOn_111 rfl rfl ?_
            refine g_geti C0 CK_1 5 (by decide) t_332 0 rfl rfl d_Calling_goOn_112 ?_
            have hB := ite_some hE
            refine g_icmp_ge C0 (tgt := 137) d_Calling_goOn_115 (by decide) (fun c_ => ?_) (fun c_ => ?_)
            · replace hE := hB.1 c_
              obtain ⟨v137, e137, hE⟩ := nm_some hE
              refine g_iinc C0 6 [(7, .int v137), (8, .int v41), (6, .int v21), (0, .ref (ad 45)), (1, .ref (ad 10)), (2, .ref (ad 20)), (5, .int x5)] d_Calling_goOn_137 rfl (by rw [e137]; rfl) (by decide) rfl ?_
              refine g_goto C0 (tgt := 9) d_Calling_goOn_140 (by decide) ?_
              refine g_sub [3, 4, 5, 6, 2, 0] (L' := [(0, .ref (ad 45)), (1, .ref (ad 10)), (2, .ref (ad 20)), (5, .int x5), (6, .int v21), (7, .int v137)]) rfl ?_
              exact hk1 _ (Option.some.inj hE).symm
            · replace hE := hB.2 c_
              refine g_aload_n C0 3 d_Calling_goOn_118 rfl rfl ?_
              refine g_iload C0 1 d_Calling_goOn_119 rfl ?_
              refine g_sipush C0 (v := 384) d_Calling_goOn_121 (by decide) ?_
              refine g_irem C0 d_Calling_goOn_124 (by decide) ?_
              obtain ⟨v125, z125, hE⟩ := bd_some hE
              refine g_calliP C0 nd_Calling [10, 11, 12] rfl (sb_River_Calling) (runV C0 (m_River_isGoal l K ad h108 (rm32 v21 384) z125) 1 rfl ⟨t_878, t_730, t_731, t_86, t_732⟩ cd_River_isGoal (by decide) 5 rfl rfl (sb_River_Calling) nd_River rfl rfl (Nat.le_of_ble_eq_true rfl) d_Calling_goOn_125) ?_
              have hB := ite_some hE
              refine g_if_eq C0 (tgt := 137) d_Calling_goOn_128 (by decide) (fun c_ => ?_) (fun c_ => ?_)
              · replace hE := hB.1 c_
                obtain ⟨v137, e137, hE⟩ := nm_some hE
                refine g_iinc C0 6 [(7, .int v137), (8, .int v41), (6, .int v21), (0, .ref (ad 45)), (1, .ref (ad 10)), (2, .ref (ad 20)), (5, .int x5)] d_Calling_goOn_137 rfl (by rw [e137]; rfl) (by decide) rfl ?_
                refine g_goto C0 (tgt := 9) d_Calling_goOn_140 (by decide) ?_
                refine g_sub [3, 4, 5, 6, 2, 0] (L' := [(0, .ref (ad 45)), (1, .ref (ad 10)), (2, .ref (ad 20)), (5, .int x5), (6, .int v21), (7, .int v137)]) rfl ?_
                exact hk1 _ (Option.some.inj hE).symm
              · replace hE := hB.2 c_
                refine g_aload_n C0 2 d_Calling_goOn_131 rfl rfl ?_
                refine g_iload C0 6 d_Calling_goOn_132 rfl ?_
                obtain ⟨h134, e134, hE⟩ := nm_some hE
                refine g_puti C0 CK_1 CT_1 5 (by decide) t_332 rfl (by decide +kernel) nd_Calling 0 rfl rfl d_Calling_goOn_134 ?_
                refine g_heap e134 ?_
                obtain ⟨v137, e137, hE⟩ := nm_some hE
                refine g_iinc C0 6 [(7, .int v137), (8, .int v41), (6, .int v21), (0, .ref (ad 45)), (1, .ref (ad 10)), (2, .ref (ad 20)), (5, .int x5)] d_Calling_goOn_137 rfl (by rw [e137]; rfl) (by decide) rfl ?_
                refine g_goto C0 (tgt := 9) d_Calling_goOn_140 (by decide) ?_
                refine g_sub [3, 4, 5, 6, 2, 0] (L' := [(0, .ref (ad 45)), (1, .ref (ad 10)), (2, .ref (ad 20)), (5, .int x5), (6, .int v21), (7, .int v137)]) rfl ?_
                exact hk1 _ (Option.some.inj hE).symm
          · replace hE := hB.2 c_
            have hq := hk2 _ (Option.some.inj hE).symm
            rw [hq]
            exact g_vret C0 hr d_Calling_goOn_80
theorem w_Calling_goOn {p : Program} {l : Launch} {e : Env} {s : State} {m : MethodId} {args : Array Value} {below : List Frame} {meth : Method} {c : Code} {K : KT} {A : Nat → Prop} (C0 : Cx p s m args meth c prog_3_method_7_code "CanoeSides$Calling" 9 K A) (hr : meth.sig.returnType = (Option.none : Option Jvm.ClassFile.FieldType)) {ad : Nat → Nat} (N : Nat) (c0 : Int32) (d0 : Int32) (e0 : Int32) (h : Hp) {res : Hp} (hE : K_Calling_goOn N c0 d0 e0 h = some res) : G p l e rm_Calling_goOn s m args below meth c K A WCalling 9 0 0 (QV s args below K A WCalling 0 0 ad res) 0 [(0, .ref (ad 45)), (1, .ref (ad 10)), (2, .ref (ad 20)), (3, .int c0), (4, .int d0), (5, .int e0)] [] ad h := by
  unfold K_Calling_goOn at hE
  refine g_iload_n C0 3 d_Calling_goOn_0 rfl rfl ?_
  refine g_istore C0 [(6, .int c0), (0, .ref (ad 45)), (1, .ref (ad 10)), (2, .ref (ad 20)), (3, .int c0), (4, .int d0), (5, .int e0)] d_Calling_goOn_1 (by decide) rfl ?_
  refine g_iload C0 5 d_Calling_goOn_3 rfl ?_
  refine g_iconst C0 (v := 1) d_Calling_goOn_5 (by decide) ?_
  refine g_iadd C0 d_Calling_goOn_6 ?_
  obtain ⟨v7, e7, hE⟩ := nm_some hE
  refine g_top e7 ?_
  refine g_istore C0 [(7, .int v7), (6, .int c0), (0, .ref (ad 45)), (1, .ref (ad 10)), (2, .ref (ad 20)), (3, .int c0), (4, .int d0), (5, .int e0)] d_Calling_goOn_7 (by decide) rfl ?_
  refine g_sub [2, 3, 4, 7, 1, 0] (L' := [(0, .ref (ad 45)), (1, .ref (ad 10)), (2, .ref (ad 20)), (5, .int e0), (6, .int c0), (7, .int v7)]) rfl ?_
  obtain ⟨t9, z9, hE⟩ := bd_some hE
  refine loopG (fun z_ : Int32 × Int32 × Hp => K_Calling_goOn_L9 N e0 z_.1 z_.2.1 z_.2.2) (fun z_ : Int32 × Int32 × Hp => G p l e rm_Calling_goOn s m args below meth c K A WCalling 9 0 0 _ 9 [(0, .ref (ad 45)), (1, .ref (ad 10)), (2, .ref (ad 20)), (5, .int e0), (6, .int z_.1), (7, .int z_.2.1)] [] ad z_.2.2) (fun z_ : (Hp) ⊕ (Hp) => (∀ r_, z_ = .inl r_ → _ = (QV s args below K A WCalling 0 0 ad r_)) ∧ (∀ y_, z_ = .inr y_ → G p l e rm_Calling_goOn s m args below meth c K A WCalling 9 0 0 _ 143 [] [] ad y_)) (fun z_ x_ hz k1 k2 => w_Calling_goOn_L9 C0 hr N e0 z_.1 z_.2.1 z_.2.2 hz k1 (fun r_ hr_ => (k2 _ hr_).1 _ rfl) (fun y_ hy_ => (k2 _ hy_).2 _ rfl)) _ _ _ z9 ?_
  refine ⟨fun r_ e_ => ?_, fun t9x e_ => ?_⟩
  · subst e_
    replace hE := el_inl hE
    exact Option.some.inj hE ▸ rfl
  · subst e_
    replace hE := el_inr hE
    try dsimp only
    obtain rfl := Option.some.inj hE
    exact g_vret C0 hr d_Calling_goOn_143
theorem m_Calling_goOn (l : Launch) (K : KT) (ad : Nat → Nat) (h : Hp) (N : Nat) (c0 : Int32) (d0 : Int32) (e0 : Int32) {res : Hp} (hE : K_Calling_goOn N c0 d0 e0 h = some res) : ConV l y_Calling_goOn prog_3_method_7_code 9 (Option.none : Option Jvm.ClassFile.FieldType) rm_Calling_goOn K WCalling ad h [.ref (ad 45), .ref (ad 10), .ref (ad 20), .int c0, .int d0, .int e0] res := fun sz =>
  con_start [(0, .ref (ad 45)), (1, .ref (ad 10)), (2, .ref (ad 20)), (3, .int c0), (4, .int d0), (5, .int e0)] (by decide +kernel) rfl (Nat.le_of_ble_eq_true rfl) (fun p e s m args below meth c C0 hr hnm hsz => w_Calling_goOn C0 hr N c0 d0 e0 h hE)
abbrev y_Calling_gatherSources : MethodName := ⟨"CanoeSides$Calling", "gatherSources", "()I"⟩
abbrev rm_Calling_gatherSources : Room := { frames := 0, cells := 0, slots := 0, locals := 0 }
theorem cd_Calling_gatherSources : cwd y_Calling_gatherSources 0 := by decide +kernel
theorem d_Calling_gatherSources_0 : decode prog_3_method_5_code 0 = .ok (.iconst 0, 1) := by decide +kernel
theorem d_Calling_gatherSources_1 : decode prog_3_method_5_code 1 = .ok (.istore_n 1, 1) := by decide +kernel
theorem d_Calling_gatherSources_2 : decode prog_3_method_5_code 2 = .ok (.iconst 0, 1) := by decide +kernel
theorem d_Calling_gatherSources_3 : decode prog_3_method_5_code 3 = .ok (.istore_n 2, 1) := by decide +kernel
theorem d_Calling_gatherSources_4 : decode prog_3_method_5_code 4 = .ok (.iload_n 2, 1) := by decide +kernel
theorem d_Calling_gatherSources_5 : decode prog_3_method_5_code 5 = .ok (.aload_n 0, 1) := by decide +kernel
theorem d_Calling_gatherSources_6 : decode prog_3_method_5_code 6 = .ok (.getfield 15, 3) := by decide +kernel
theorem d_Calling_gatherSources_9 : decode prog_3_method_5_code 9 = .ok (.arraylength, 1) := by decide +kernel
theorem d_Calling_gatherSources_10 : decode prog_3_method_5_code 10 = .ok (.if_icmp .ge 64, 3) := by decide +kernel
theorem d_Calling_gatherSources_13 : decode prog_3_method_5_code 13 = .ok (.iload_n 2, 1) := by decide +kernel
theorem d_Calling_gatherSources_14 : decode prog_3_method_5_code 14 = .ok (.aload_n 0, 1) := by decide +kernel
theorem d_Calling_gatherSources_15 : decode prog_3_method_5_code 15 = .ok (.getfield 9, 3) := by decide +kernel
theorem d_Calling_gatherSources_18 : decode prog_3_method_5_code 18 = .ok (.arraylength, 1) := by decide +kernel
theorem d_Calling_gatherSources_19 : decode prog_3_method_5_code 19 = .ok (.if_icmp .ge 55, 3) := by decide +kernel
theorem d_Calling_gatherSources_22 : decode prog_3_method_5_code 22 = .ok (.aload_n 0, 1) := by decide +kernel
theorem d_Calling_gatherSources_23 : decode prog_3_method_5_code 23 = .ok (.getfield 15, 3) := by decide +kernel
theorem d_Calling_gatherSources_26 : decode prog_3_method_5_code 26 = .ok (.iload_n 2, 1) := by decide +kernel
theorem d_Calling_gatherSources_27 : decode prog_3_method_5_code 27 = .ok (.iaload, 1) := by decide +kernel
theorem d_Calling_gatherSources_28 : decode prog_3_method_5_code 28 = .ok (.aload_n 0, 1) := by decide +kernel
theorem d_Calling_gatherSources_29 : decode prog_3_method_5_code 29 = .ok (.getfield 9, 3) := by decide +kernel
theorem d_Calling_gatherSources_32 : decode prog_3_method_5_code 32 = .ok (.iload_n 2, 1) := by decide +kernel
theorem d_Calling_gatherSources_33 : decode prog_3_method_5_code 33 = .ok (.iaload, 1) := by decide +kernel
theorem d_Calling_gatherSources_34 : decode prog_3_method_5_code 34 = .ok (.if_icmp .ge 34, 3) := by decide +kernel
theorem d_Calling_gatherSources_37 : decode prog_3_method_5_code 37 = .ok (.iload_n 1, 1) := by decide +kernel
theorem d_Calling_gatherSources_38 : decode prog_3_method_5_code 38 = .ok (.aload_n 0, 1) := by decide +kernel
theorem d_Calling_gatherSources_39 : decode prog_3_method_5_code 39 = .ok (.getfield 21, 3) := by decide +kernel
theorem d_Calling_gatherSources_42 : decode prog_3_method_5_code 42 = .ok (.arraylength, 1) := by decide +kernel
theorem d_Calling_gatherSources_43 : decode prog_3_method_5_code 43 = .ok (.if_icmp .ge 25, 3) := by decide +kernel
theorem d_Calling_gatherSources_46 : decode prog_3_method_5_code 46 = .ok (.aload_n 0, 1) := by decide +kernel
theorem d_Calling_gatherSources_47 : decode prog_3_method_5_code 47 = .ok (.getfield 9, 3) := by decide +kernel
theorem d_Calling_gatherSources_50 : decode prog_3_method_5_code 50 = .ok (.iload_n 2, 1) := by decide +kernel
theorem d_Calling_gatherSources_51 : decode prog_3_method_5_code 51 = .ok (.aload_n 0, 1) := by decide +kernel
theorem d_Calling_gatherSources_52 : decode prog_3_method_5_code 52 = .ok (.getfield 15, 3) := by decide +kernel
theorem d_Calling_gatherSources_55 : decode prog_3_method_5_code 55 = .ok (.iload_n 2, 1) := by decide +kernel
theorem d_Calling_gatherSources_56 : decode prog_3_method_5_code 56 = .ok (.iaload, 1) := by decide +kernel
theorem d_Calling_gatherSources_57 : decode prog_3_method_5_code 57 = .ok (.iastore, 1) := by decide +kernel
theorem d_Calling_gatherSources_58 : decode prog_3_method_5_code 58 = .ok (.aload_n 0, 1) := by decide +kernel
theorem d_Calling_gatherSources_59 : decode prog_3_method_5_code 59 = .ok (.getfield 21, 3) := by decide +kernel
theorem d_Calling_gatherSources_62 : decode prog_3_method_5_code 62 = .ok (.iload_n 1, 1) := by decide +kernel
theorem d_Calling_gatherSources_63 : decode prog_3_method_5_code 63 = .ok (.iload_n 2, 1) := by decide +kernel
theorem d_Calling_gatherSources_64 : decode prog_3_method_5_code 64 = .ok (.iastore, 1) := by decide +kernel
theorem d_Calling_gatherSources_65 : decode prog_3_method_5_code 65 = .ok (.iinc 1 1, 3) := by decide +kernel
theorem d_Calling_gatherSources_68 : decode prog_3_method_5_code 68 = .ok (.iinc 2 1, 3) := by decide +kernel
theorem d_Calling_gatherSources_71 : decode prog_3_method_5_code 71 = .ok (.goto (-67), 3) := by decide +kernel
theorem d_Calling_gatherSources_74 : decode prog_3_method_5_code 74 = .ok (.iload_n 1, 1) := by decide +kernel
theorem d_Calling_gatherSources_75 : decode prog_3_method_5_code 75 = .ok (.ireturn, 1) := by decide +kernel
theorem w_Calling_gatherSources_L4 {p : Program} {l : Launch} {e : Env} {s : State} {m : MethodId} {args : Array Value} {below : List Frame} {meth : Method} {c : Code} {K : KT} {A : Nat → Prop} {Q : State → Prop} (C0 : Cx p s m args meth c prog_3_method_5_code "CanoeSides$Calling" 3 K A) (hr : meth.sig.returnType = (Option.some Jvm.ClassFile.FieldType.int)) {ad : Nat → Nat} (N : Nat) (x1 : Int32) (x2 : Int32) (h : Hp) {x_ : (Int32 × Int32 × Hp) ⊕ (Int32 × Hp)} (hE : K_Calling_gatherSources_L4 N x1 x2 h = some x_) (hk1 : ∀ z_, x_ = .inl z_ → G p l e rm_Calling_gatherSources s m args below meth c K A WCalling 3 0 0 Q 4 [(0, .ref (ad 45)), (1, .int z_.1), (2, .int z_.2.1)] [] ad z_.2.2) (hk3 : ∀ z_, x_ = .inr z_ → G p l e rm_Calling_gatherSources s m args below meth c K A WCalling 3 0 0 Q 74 [(1, .int z_.1)] [] ad z_.2) : G p l e rm_Calling_gatherSources s m args below meth c K A WCalling 3 0 0 Q 4 [(0, .ref (ad 45)), (1, .int x1), (2, .int x2)] [] ad h := by
  unfold K_Calling_gatherSources_L4 at hE
  refine g_iload_n C0 2 d_Calling_gatherSources_4 rfl rfl ?_
  refine g_aload_n C0 0 d_Calling_gatherSources_5 rfl rfl ?_
  refine g_getr C0 CK_1 1 (by decide) t_328 0 rfl rfl d_Calling_gatherSources_6 ?_
  refine g_alen C0 2 rfl rfl (v := 3456) (by decide) d_Calling_gatherSources_9 ?_
  have hB := ite_some hE
  refine g_icmp_ge C0 (tgt := 74) d_Calling_gatherSources_10 (by decide) (fun c_ => ?_) (fun c_ => ?_)
  · replace hE := hB.1 c_
    refine g_sub [1] (L' := [(1, .int x1)]) rfl ?_
    exact hk3 _ (Option.some.inj hE).symm
  · replace hE := hB.2 c_
    refine g_iload_n C0 2 d_Calling_gatherSources_13 rfl rfl ?_
    refine g_aload_n C0 0 d_Calling_gatherSources_14 rfl rfl ?_
    refine g_getr C0 CK_1 0 (by decide) t_327 0 rfl rfl d_Calling_gatherSources_15 ?_
    refine g_alen C0 1 rfl rfl (v := 3456) (by decide) d_Calling_gatherSources_18 ?_
    have hB := ite_some hE
    refine g_icmp_ge C0 (tgt := 74) d_Calling_gatherSources_19 (by decide) (fun c_ => ?_) (fun c_ => ?_)
    · replace hE := hB.1 c_
      refine g_sub [1] (L' := [(1, .int x1)]) rfl ?_
      exact hk3 _ (Option.some.inj hE).symm
    · replace hE := hB.2 c_
      refine g_aload_n C0 0 d_Calling_gatherSources_22 rfl rfl ?_
      refine g_getr C0 CK_1 1 (by decide) t_328 0 rfl rfl d_Calling_gatherSources_23 ?_
      refine g_iload_n C0 2 d_Calling_gatherSources_26 rfl rfl ?_
      obtain ⟨q27, v27, e27, hE⟩ := gA_some hE
      refine g_iald C0 2 rfl q27 d_Calling_gatherSources_27 ?_
      refine g_top e27 ?_
      refine g_aload_n C0 0 d_Calling_gatherSources_28 rfl rfl ?_
      refine g_getr C0 CK_1 0 (by decide) t_327 0 rfl rfl d_Calling_gatherSources_29 ?_
      refine g_iload_n C0 2 d_Calling_gatherSources_32 rfl rfl ?_
      obtain ⟨q33, v33, e33, hE⟩ := gA_some hE
      refine g_iald C0 1 rfl q33 d_Calling_gatherSources_33 ?_
      refine g_top e33 ?_
      have hB := ite_some hE
      refine g_icmp_ge C0 (tgt := 68) d_Calling_gatherSources_34 (by decide) (fun c_ => ?_) (fun c_ => ?_)
      · replace hE := hB.1 c_
        obtain ⟨v68, e68, hE⟩ := nm_some hE
        refine g_iinc C0 2 [(2, .int v68), (0, .ref (ad 45)), (1, .int x1)] d_Calling_gatherSources_68 rfl (by rw [e68]; rfl) (by decide) rfl ?_
        refine g_goto C0 (tgt := 4) d_Calling_gatherSources_71 (by decide) ?_
        refine g_sub [1, 2, 0] (L' := [(0, .ref (ad 45)), (1, .int x1), (2, .int v68)]) rfl ?_
        exact hk1 _ (Option.some.inj hE).symm
      · replace hE := hB.2 c_
        refine g_iload_n C0 1 d_Calling_gatherSources_37 rfl rfl ?_
        refine g_aload_n C0 0 d_Calling_gatherSources_38 rfl rfl ?_
        refine g_getr C0 CK_1 3 (by decide) t_330 0 rfl rfl d_Calling_gatherSources_39 ?_
        refine g_alen C0 4 rfl rfl (v := 3456) (by decide) d_Calling_gatherSources_42 ?_
        have hB := ite_some hE
        refine g_icmp_ge C0 (tgt := 68) d_Calling_gatherSources_43 (by decide) (fun c_ => ?_) (fun c_ => ?_)
        · replace hE := hB.1 c_
          obtain ⟨v68, e68, hE⟩ := nm_some hE
          refine g_iinc C0 2 [(2, .int v68), (0, .ref (ad 45)), (1, .int x1)] d_Calling_gatherSources_68 rfl (by rw [e68]; rfl) (by decide) rfl ?_
          refine g_goto C0 (tgt := 4) d_Calling_gatherSources_71 (by decide) ?_
          refine g_sub [1, 2, 0] (L' := [(0, .ref (ad 45)), (1, .int x1), (2, .int v68)]) rfl ?_
          exact hk1 _ (Option.some.inj hE).symm
        · replace hE := hB.2 c_
          refine g_aload_n C0 0 d_Calling_gatherSources_46 rfl rfl ?_
          refine g_getr C0 CK_1 0 (by decide) t_327 0 rfl rfl d_Calling_gatherSources_47 ?_
          refine g_iload_n C0 2 d_Calling_gatherSources_50 rfl rfl ?_
          refine g_aload_n C0 0 d_Calling_gatherSources_51 rfl rfl ?_
          refine g_getr C0 CK_1 1 (by decide) t_328 0 rfl rfl d_Calling_gatherSources_52 ?_
          refine g_iload_n C0 2 d_Calling_gatherSources_55 rfl rfl ?_
          obtain ⟨q56, v56, e56, hE⟩ := gA_some hE
          refine g_iald C0 2 rfl q56 d_Calling_gatherSources_56 ?_
          refine g_top e56 ?_
          obtain ⟨q57, hE⟩ := sA_some hE
          obtain ⟨h57, e57, hE⟩ := nm_some hE
          refine g_iast C0 1 rfl nd_Calling q57 d_Calling_gatherSources_57 ?_
          refine g_heap e57 ?_
          refine g_aload_n C0 0 d_Calling_gatherSources_58 rfl rfl ?_
          refine g_getr C0 CK_1 3 (by decide) t_330 0 rfl rfl d_Calling_gatherSources_59 ?_
          refine g_iload_n C0 1 d_Calling_gatherSources_62 rfl rfl ?_
          refine g_iload_n C0 2 d_Calling_gatherSources_63 rfl rfl ?_
          obtain ⟨q64, hE⟩ := sA_some hE
          obtain ⟨h64, e64, hE⟩ := nm_some hE
          refine g_iast C0 4 rfl nd_Calling q64 d_Calling_gatherSources_64 ?_
          refine g_heap e64 ?_
          obtain ⟨v65, e65, hE⟩ := nm_some hE
          refine g_iinc C0 1 [(1, .int v65), (0, .ref (ad 45)), (2, .int x2)] d_Calling_gatherSources_65 rfl (by rw [e65]; rfl) (by decide) rfl ?_
          obtain ⟨v68, e68, hE⟩ := nm_some hE
          refine g_iinc C0 2 [(2, .int v68), (1, .int v65), (0, .ref (ad 45))] d_Calling_gatherSources_68 rfl (by rw [e68]; rfl) (by decide) rfl ?_
          refine g_goto C0 (tgt := 4) d_Calling_gatherSources_71 (by decide) ?_
          refine g_sub [2, 1, 0] (L' := [(0, .ref (ad 45)), (1, .int v65), (2, .int v68)]) rfl ?_
          exact hk1 _ (Option.some.inj hE).symm
theorem w_Calling_gatherSources {p : Program} {l : Launch} {e : Env} {s : State} {m : MethodId} {args : Array Value} {below : List Frame} {meth : Method} {c : Code} {K : KT} {A : Nat → Prop} (C0 : Cx p s m args meth c prog_3_method_5_code "CanoeSides$Calling" 3 K A) (hr : meth.sig.returnType = (Option.some Jvm.ClassFile.FieldType.int)) {ad : Nat → Nat} (N : Nat) (h : Hp) {res : Int32 × Hp} (hE : K_Calling_gatherSources N h = some res) : G p l e rm_Calling_gatherSources s m args below meth c K A WCalling 3 0 0 (QI s args below K A WCalling 0 0 ad res.1 res.2) 0 [(0, .ref (ad 45))] [] ad h := by
  unfold K_Calling_gatherSources at hE
  refine g_iconst C0 (v := 0) d_Calling_gatherSources_0 (by decide) ?_
  refine g_istore_n C0 [(1, .int 0), (0, .ref (ad 45))] d_Calling_gatherSources_1 rfl (by decide) rfl ?_
  refine g_iconst C0 (v := 0) d_Calling_gatherSources_2 (by decide) ?_
  refine g_istore_n C0 [(2, .int 0), (1, .int 0), (0, .ref (ad 45))] d_Calling_gatherSources_3 rfl (by decide) rfl ?_
  refine g_sub [2, 1, 0] (L' := [(0, .ref (ad 45)), (1, .int 0), (2, .int 0)]) rfl ?_
  obtain ⟨t4, z4, hE⟩ := bd_some hE
  refine loopG (fun z_ : Int32 × Int32 × Hp => K_Calling_gatherSources_L4 N z_.1 z_.2.1 z_.2.2) (fun z_ : Int32 × Int32 × Hp => G p l e rm_Calling_gatherSources s m args below meth c K A WCalling 3 0 0 _ 4 [(0, .ref (ad 45)), (1, .int z_.1), (2, .int z_.2.1)] [] ad z_.2.2) (fun z_ : Int32 × Hp => G p l e rm_Calling_gatherSources s m args below meth c K A WCalling 3 0 0 _ 74 [(1, .int z_.1)] [] ad z_.2) (fun z_ x_ hz k1 k2 => w_Calling_gatherSources_L4 C0 hr N z_.1 z_.2.1 z_.2.2 hz k1 k2) _ _ _ z4 ?_
  try dsimp only
  refine g_iload_n C0 0 d_Calling_gatherSources_74 rfl rfl ?_
  obtain rfl := Option.some.inj hE
  exact g_iret C0 hr d_Calling_gatherSources_75
theorem m_Calling_gatherSources (l : Launch) (K : KT) (ad : Nat → Nat) (h : Hp) (N : Nat) {res : Int32 × Hp} (hE : K_Calling_gatherSources N h = some res) : ConI l y_Calling_gatherSources prog_3_method_5_code 3 (Option.some Jvm.ClassFile.FieldType.int) rm_Calling_gatherSources K WCalling ad h [.ref (ad 45)] res.1 res.2 := fun sz =>
  con_start [(0, .ref (ad 45))] (by decide +kernel) rfl (Nat.le_of_ble_eq_true rfl) (fun p e s m args below meth c C0 hr hnm hsz => w_Calling_gatherSources C0 hr N h hE)
abbrev y_Calling_strokesTo : MethodName := ⟨"CanoeSides$Calling", "strokesTo", "(I)I"⟩
abbrev rm_Calling_strokesTo : Room := { frames := 0, cells := 0, slots := 0, locals := 0 }
theorem cd_Calling_strokesTo : cwd y_Calling_strokesTo 1 := by decide +kernel
theorem d_Calling_strokesTo_0 : decode prog_3_method_6_code 0 = .ok (.iload_n 1, 1) := by decide +kernel
theorem d_Calling_strokesTo_1 : decode prog_3_method_6_code 1 = .ok (.ifCond .lt 21, 3) := by decide +kernel
theorem d_Calling_strokesTo_4 : decode prog_3_method_6_code 4 = .ok (.iload_n 1, 1) := by decide +kernel
theorem d_Calling_strokesTo_5 : decode prog_3_method_6_code 5 = .ok (.aload_n 0, 1) := by decide +kernel
theorem d_Calling_strokesTo_6 : decode prog_3_method_6_code 6 = .ok (.getfield 9, 3) := by decide +kernel
theorem d_Calling_strokesTo_9 : decode prog_3_method_6_code 9 = .ok (.arraylength, 1) := by decide +kernel
theorem d_Calling_strokesTo_10 : decode prog_3_method_6_code 10 = .ok (.if_icmp .ge 12, 3) := by decide +kernel
theorem d_Calling_strokesTo_13 : decode prog_3_method_6_code 13 = .ok (.aload_n 0, 1) := by decide +kernel
theorem d_Calling_strokesTo_14 : decode prog_3_method_6_code 14 = .ok (.getfield 9, 3) := by decide +kernel
theorem d_Calling_strokesTo_17 : decode prog_3_method_6_code 17 = .ok (.iload_n 1, 1) := by decide +kernel
theorem d_Calling_strokesTo_18 : decode prog_3_method_6_code 18 = .ok (.iaload, 1) := by decide +kernel
theorem d_Calling_strokesTo_19 : decode prog_3_method_6_code 19 = .ok (.goto 5, 3) := by decide +kernel
theorem d_Calling_strokesTo_22 : decode prog_3_method_6_code 22 = .ok (.bipush 99, 2) := by decide +kernel
theorem d_Calling_strokesTo_24 : decode prog_3_method_6_code 24 = .ok (.ireturn, 1) := by decide +kernel
theorem w_Calling_strokesTo {p : Program} {l : Launch} {e : Env} {s : State} {m : MethodId} {args : Array Value} {below : List Frame} {meth : Method} {c : Code} {K : KT} {A : Nat → Prop} (C0 : Cx p s m args meth c prog_3_method_6_code "CanoeSides$Calling" 2 K A) (hr : meth.sig.returnType = (Option.some Jvm.ClassFile.FieldType.int)) {ad : Nat → Nat} (a0 : Int32) (h : Hp) {res : Int32} (hE : K_Calling_strokesTo a0 h = some res) : G p l e rm_Calling_strokesTo s m args below meth c K A WCalling 2 0 0 (QI s args below K A WCalling 0 0 ad res h) 0 [(0, .ref (ad 45)), (1, .int a0)] [] ad h := by
  unfold K_Calling_strokesTo at hE
  refine g_iload_n C0 1 d_Calling_strokesTo_0 rfl rfl ?_
  have hB := ite_some hE
  refine g_if_lt C0 (tgt := 22) d_Calling_strokesTo_1 (by decide) (fun c_ => ?_) (fun c_ => ?_)
  · replace hE := hB.1 c_
    refine g_bipush C0 (v := 99) d_Calling_strokesTo_22 (by decide) ?_
    obtain rfl := Option.some.inj hE
    exact g_iret C0 hr d_Calling_strokesTo_24
  · replace hE := hB.2 c_
    refine g_iload_n C0 1 d_Calling_strokesTo_4 rfl rfl ?_
    refine g_aload_n C0 0 d_Calling_strokesTo_5 rfl rfl ?_
    refine g_getr C0 CK_1 0 (by decide) t_327 0 rfl rfl d_Calling_strokesTo_6 ?_
    refine g_alen C0 1 rfl rfl (v := 3456) (by decide) d_Calling_strokesTo_9 ?_
    have hB := ite_some hE
    refine g_icmp_ge C0 (tgt := 22) d_Calling_strokesTo_10 (by decide) (fun c_ => ?_) (fun c_ => ?_)
    · replace hE := hB.1 c_
      refine g_bipush C0 (v := 99) d_Calling_strokesTo_22 (by decide) ?_
      obtain rfl := Option.some.inj hE
      exact g_iret C0 hr d_Calling_strokesTo_24
    · replace hE := hB.2 c_
      refine g_aload_n C0 0 d_Calling_strokesTo_13 rfl rfl ?_
      refine g_getr C0 CK_1 0 (by decide) t_327 0 rfl rfl d_Calling_strokesTo_14 ?_
      refine g_iload_n C0 1 d_Calling_strokesTo_17 rfl rfl ?_
      obtain ⟨q18, v18, e18, hE⟩ := gA_some hE
      refine g_iald C0 1 rfl q18 d_Calling_strokesTo_18 ?_
      refine g_top e18 ?_
      refine g_goto C0 (tgt := 24) d_Calling_strokesTo_19 (by decide) ?_
      obtain rfl := Option.some.inj hE
      exact g_iret C0 hr d_Calling_strokesTo_24
theorem m_Calling_strokesTo (l : Launch) (K : KT) (ad : Nat → Nat) (h : Hp) (a0 : Int32) {res : Int32} (hE : K_Calling_strokesTo a0 h = some res) : ConI l y_Calling_strokesTo prog_3_method_6_code 2 (Option.some Jvm.ClassFile.FieldType.int) rm_Calling_strokesTo K WCalling ad h [.ref (ad 45), .int a0] res h := fun sz =>
  con_start [(0, .ref (ad 45)), (1, .int a0)] (by decide +kernel) rfl (Nat.le_of_ble_eq_true rfl) (fun p e s m args below meth c C0 hr hnm hsz => w_Calling_strokesTo C0 hr a0 h hE)
abbrev y_Calling_callOnAndOn : MethodName := ⟨"CanoeSides$Calling", "callOnAndOn", "(LCanoeSides$River;LCanoeSides$Crew;)V"⟩
abbrev rm_Calling_callOnAndOn : Room := { frames := 4, cells := 0, slots := 0, locals := 101 }
theorem cd_Calling_callOnAndOn : cwd y_Calling_callOnAndOn 2 := by decide +kernel
theorem d_Calling_callOnAndOn_0 : decode prog_3_method_4_code 0 = .ok (.iconst 0, 1) := by decide +kernel
theorem d_Calling_callOnAndOn_1 : decode prog_3_method_4_code 1 = .ok (.istore_n 3, 1) := by decide +kernel
theorem d_Calling_callOnAndOn_2 : decode prog_3_method_4_code 2 = .ok (.iload_n 3, 1) := by decide +kernel
theorem d_Calling_callOnAndOn_3 : decode prog_3_method_4_code 3 = .ok (.bipush 60, 2) := by decide +kernel
theorem d_Calling_callOnAndOn_5 : decode prog_3_method_4_code 5 = .ok (.if_icmp .ge 107, 3) := by decide +kernel
theorem d_Calling_callOnAndOn_8 : decode prog_3_method_4_code 8 = .ok (.aload_n 0, 1) := by decide +kernel
theorem d_Calling_callOnAndOn_9 : decode prog_3_method_4_code 9 = .ok (.getfield 28, 3) := by decide +kernel
theorem d_Calling_callOnAndOn_12 : decode prog_3_method_4_code 12 = .ok (.bipush 99, 2) := by decide +kernel
theorem d_Calling_callOnAndOn_14 : decode prog_3_method_4_code 14 = .ok (.if_icmp .ne 98, 3) := by decide +kernel
theorem d_Calling_callOnAndOn_17 : decode prog_3_method_4_code 17 = .ok (.aload_n 0, 1) := by decide +kernel
theorem d_Calling_callOnAndOn_18 : decode prog_3_method_4_code 18 = .ok (.invokevirtual 63, 3) := by decide +kernel
theorem d_Calling_callOnAndOn_21 : decode prog_3_method_4_code 21 = .ok (.istore 4, 2) := by decide +kernel
theorem d_Calling_callOnAndOn_23 : decode prog_3_method_4_code 23 = .ok (.iconst 0, 1) := by decide +kernel
theorem d_Calling_callOnAndOn_24 : decode prog_3_method_4_code 24 = .ok (.istore 5, 2) := by decide +kernel
theorem d_Calling_callOnAndOn_26 : decode prog_3_method_4_code 26 = .ok (.iload 5, 2) := by decide +kernel
theorem d_Calling_callOnAndOn_28 : decode prog_3_method_4_code 28 = .ok (.bipush 16, 2) := by decide +kernel
theorem d_Calling_callOnAndOn_30 : decode prog_3_method_4_code 30 = .ok (.if_icmp .ge 76, 3) := by decide +kernel
theorem d_Calling_callOnAndOn_33 : decode prog_3_method_4_code 33 = .ok (.iload 4, 2) := by decide +kernel
theorem d_Calling_callOnAndOn_35 : decode prog_3_method_4_code 35 = .ok (.ifCond .le 71, 3) := by decide +kernel
theorem d_Calling_callOnAndOn_38 : decode prog_3_method_4_code 38 = .ok (.aload_n 0, 1) := by decide +kernel
theorem d_Calling_callOnAndOn_39 : decode prog_3_method_4_code 39 = .ok (.dup, 1) := by decide +kernel
theorem d_Calling_callOnAndOn_40 : decode prog_3_method_4_code 40 = .ok (.getfield 24, 3) := by decide +kernel
theorem d_Calling_callOnAndOn_43 : decode prog_3_method_4_code 43 = .ok (.iconst 1, 1) := by decide +kernel
theorem d_Calling_callOnAndOn_44 : decode prog_3_method_4_code 44 = .ok (.iadd, 1) := by decide +kernel
theorem d_Calling_callOnAndOn_45 : decode prog_3_method_4_code 45 = .ok (.putfield 24, 3) := by decide +kernel
theorem d_Calling_callOnAndOn_48 : decode prog_3_method_4_code 48 = .ok (.iconst 0, 1) := by decide +kernel
theorem d_Calling_callOnAndOn_49 : decode prog_3_method_4_code 49 = .ok (.istore 6, 2) := by decide +kernel
theorem d_Calling_callOnAndOn_51 : decode prog_3_method_4_code 51 = .ok (.iload 6, 2) := by decide +kernel
theorem d_Calling_callOnAndOn_53 : decode prog_3_method_4_code 53 = .ok (.iload 4, 2) := by decide +kernel
theorem d_Calling_callOnAndOn_55 : decode prog_3_method_4_code 55 = .ok (.if_icmp .ge 45, 3) := by decide +kernel
theorem d_Calling_callOnAndOn_58 : decode prog_3_method_4_code 58 = .ok (.iload 6, 2) := by decide +kernel
theorem d_Calling_callOnAndOn_60 : decode prog_3_method_4_code 60 = .ok (.aload_n 0, 1) := by decide +kernel
theorem d_Calling_callOnAndOn_61 : decode prog_3_method_4_code 61 = .ok (.getfield 21, 3) := by decide +kernel
theorem d_Calling_callOnAndOn_64 : decode prog_3_method_4_code 64 = .ok (.arraylength, 1) := by decide +kernel
theorem d_Calling_callOnAndOn_65 : decode prog_3_method_4_code 65 = .ok (.if_icmp .ge 35, 3) := by decide +kernel
theorem d_Calling_callOnAndOn_68 : decode prog_3_method_4_code 68 = .ok (.aload_n 0, 1) := by decide +kernel
theorem d_Calling_callOnAndOn_69 : decode prog_3_method_4_code 69 = .ok (.aload_n 1, 1) := by decide +kernel
theorem d_Calling_callOnAndOn_70 : decode prog_3_method_4_code 70 = .ok (.aload_n 2, 1) := by decide +kernel
theorem d_Calling_callOnAndOn_71 : decode prog_3_method_4_code 71 = .ok (.aload_n 0, 1) := by decide +kernel
theorem d_Calling_callOnAndOn_72 : decode prog_3_method_4_code 72 = .ok (.getfield 21, 3) := by decide +kernel
theorem d_Calling_callOnAndOn_75 : decode prog_3_method_4_code 75 = .ok (.iload 6, 2) := by decide +kernel
theorem d_Calling_callOnAndOn_77 : decode prog_3_method_4_code 77 = .ok (.iaload, 1) := by decide +kernel
theorem d_Calling_callOnAndOn_78 : decode prog_3_method_4_code 78 = .ok (.aload_n 0, 1) := by decide +kernel
theorem d_Calling_callOnAndOn_79 : decode prog_3_method_4_code 79 = .ok (.aload_n 0, 1) := by decide +kernel
theorem d_Calling_callOnAndOn_80 : decode prog_3_method_4_code 80 = .ok (.getfield 21, 3) := by decide +kernel
theorem d_Calling_callOnAndOn_83 : decode prog_3_method_4_code 83 = .ok (.iload 6, 2) := by decide +kernel
theorem d_Calling_callOnAndOn_85 : decode prog_3_method_4_code 85 = .ok (.iaload, 1) := by decide +kernel
theorem d_Calling_callOnAndOn_86 : decode prog_3_method_4_code 86 = .ok (.invokevirtual 67, 3) := by decide +kernel
theorem d_Calling_callOnAndOn_89 : decode prog_3_method_4_code 89 = .ok (.iload 5, 2) := by decide +kernel
theorem d_Calling_callOnAndOn_91 : decode prog_3_method_4_code 91 = .ok (.invokevirtual 55, 3) := by decide +kernel
theorem d_Calling_callOnAndOn_94 : decode prog_3_method_4_code 94 = .ok (.iinc 6 1, 3) := by decide +kernel
theorem d_Calling_callOnAndOn_97 : decode prog_3_method_4_code 97 = .ok (.goto (-46), 3) := by decide +kernel
theorem d_Calling_callOnAndOn_100 : decode prog_3_method_4_code 100 = .ok (.iinc 5 1, 3) := by decide +kernel
theorem d_Calling_callOnAndOn_103 : decode prog_3_method_4_code 103 = .ok (.goto (-77), 3) := by decide +kernel
theorem d_Calling_callOnAndOn_106 : decode prog_3_method_4_code 106 = .ok (.iinc 3 1, 3) := by decide +kernel
theorem d_Calling_callOnAndOn_109 : decode prog_3_method_4_code 109 = .ok (.goto (-107), 3) := by decide +kernel
theorem d_Calling_callOnAndOn_112 : decode prog_3_method_4_code 112 = .ok (.aload_n 0, 1) := by decide +kernel
theorem d_Calling_callOnAndOn_113 : decode prog_3_method_4_code 113 = .ok (.getfield 28, 3) := by decide +kernel
theorem d_Calling_callOnAndOn_116 : decode prog_3_method_4_code 116 = .ok (.bipush 99, 2) := by decide +kernel
theorem d_Calling_callOnAndOn_118 : decode prog_3_method_4_code 118 = .ok (.if_icmp .eq 16, 3) := by decide +kernel
theorem d_Calling_callOnAndOn_121 : decode prog_3_method_4_code 121 = .ok (.aload_n 0, 1) := by decide +kernel
theorem d_Calling_callOnAndOn_122 : decode prog_3_method_4_code 122 = .ok (.iload_n 3, 1) := by decide +kernel
theorem d_Calling_callOnAndOn_123 : decode prog_3_method_4_code 123 = .ok (.putfield 31, 3) := by decide +kernel
theorem d_Calling_callOnAndOn_126 : decode prog_3_method_4_code 126 = .ok (.aload_n 0, 1) := by decide +kernel
theorem d_Calling_callOnAndOn_127 : decode prog_3_method_4_code 127 = .ok (.aload_n 0, 1) := by decide +kernel
theorem d_Calling_callOnAndOn_128 : decode prog_3_method_4_code 128 = .ok (.getfield 28, 3) := by decide +kernel
theorem d_Calling_callOnAndOn_131 : decode prog_3_method_4_code 131 = .ok (.putfield 34, 3) := by decide +kernel
theorem d_Calling_callOnAndOn_134 : decode prog_3_method_4_code 134 = .ok (.return_, 1) := by decide +kernel
theorem w_Calling_callOnAndOn_L51 {p : Program} {l : Launch} {e : Env} {s : State} {m : MethodId} {args : Array Value} {below : List Frame} {meth : Method} {c : Code} {K : KT} {A : Nat → Prop} {Q : State → Prop} (C0 : Cx p s m args meth c prog_3_method_4_code "CanoeSides$Calling" 7 K A) (hr : meth.sig.returnType = (Option.none : Option Jvm.ClassFile.FieldType)) {ad : Nat → Nat} (N : Nat) (x3 : Int32) (x4 : Int32) (x5 : Int32) (x6 : Int32) (h : Hp) {x_ : (Int32 × Hp) ⊕ (Hp)} (hE : K_Calling_callOnAndOn_L51 N x3 x4 x5 x6 h = some x_) (hk1 : ∀ z_, x_ = .inl z_ → G p l e rm_Calling_callOnAndOn s m args below meth c K A WCalling 7 0 0 Q 51 [(0, .ref (ad 45)), (1, .ref (ad 10)), (2, .ref (ad 20)), (3, .int x3), (4, .int x4), (5, .int x5), (6, .int z_.1)] [] ad z_.2) (hk3 : ∀ z_, x_ = .inr z_ → G p l e rm_Calling_callOnAndOn s m args below meth c K A WCalling 7 0 0 Q 100 [(0, .ref (ad 45)), (1, .ref (ad 10)), (2, .ref (ad 20)), (3, .int x3), (4, .int x4), (5, .int x5)] [] ad z_) : G p l e rm_Calling_callOnAndOn s m args below meth c K A WCalling 7 0 0 Q 51 [(0, .ref (ad 45)), (1, .ref (ad 10)), (2, .ref (ad 20)), (3, .int x3), (4, .int x4), (5, .int x5), (6, .int x6)] [] ad h := by
  unfold K_Calling_callOnAndOn_L51 at hE
  refine g_iload C0 6 d_Calling_callOnAndOn_51 rfl ?_
  refine g_iload C0 4 d_Calling_callOnAndOn_53 rfl ?_
  have hB := ite_some hE
  refine g_icmp_ge C0 (tgt := 100) d_Calling_callOnAndOn_55 (by decide) (fun c_ => ?_) (fun c_ => ?_)
  · replace hE := hB.1 c_
    refine g_sub [0, 1, 2, 3, 4, 5] (L' := [(0, .ref (ad 45)), (1, .ref (ad 10)), (2, .ref (ad 20)), (3, .int x3), (4, .int x4), (5, .int x5)]) rfl ?_
    exact hk3 _ (Option.some.inj hE).symm
  · replace hE := hB.2 c_
    refine g_iload C0 6 d_Calling_callOnAndOn_58 rfl ?_
    refine g_aload_n C0 0 d_Calling_callOnAndOn_60 rfl rfl ?_
    refine g_getr C0 CK_1 3 (by decide) t_330 0 rfl rfl d_Calling_callOnAndOn_61 ?_
    refine g_alen C0 4 rfl rfl (v := 3456) (by decide) d_Calling_callOnAndOn_64 ?_
    have hB := ite_some hE
    refine g_icmp_ge C0 (tgt := 100) d_Calling_callOnAndOn_65 (by decide) (fun c_ => ?_) (fun c_ => ?_)
    · replace hE := hB.1 c_
      refine g_sub [0, 1, 2, 3, 4, 5] (L' := [(0, .ref (ad 45)), (1, .ref (ad 10)), (2, .ref (ad 20)), (3, .int x3), (4, .int x4), (5, .int x5)]) rfl ?_
      exact hk3 _ (Option.some.inj hE).symm
    · replace hE := hB.2 c_
      refine g_aload_n C0 0 d_Calling_callOnAndOn_68 rfl rfl ?_
      refine g_aload_n C0 1 d_Calling_callOnAndOn_69 rfl rfl ?_
      refine g_aload_n C0 2 d_Calling_callOnAndOn_70 rfl rfl ?_
      refine g_aload_n C0 0 d_Calling_callOnAndOn_71 rfl rfl ?_
      refine g_getr C0 CK_1 3 (by decide) t_330 0 rfl rfl d_Calling_callOnAndOn_72 ?_
      refine g_iload C0 6 d_Calling_callOnAndOn_75 rfl ?_
      obtain ⟨q77, v77, e77, hE⟩ := gA_some hE
      refine g_iald C0 4 rfl q77 d_Calling_callOnAndOn_77 ?_
      refine g_top e77 ?_
      refine g_aload_n C0 0 d_Calling_callOnAndOn_78 rfl rfl ?_
      refine g_aload_n C0 0 d_Calling_callOnAndOn_79 rfl rfl ?_
      refine g_getr C0 CK_1 3 (by decide) t_330 0 rfl rfl d_Calling_callOnAndOn_80 ?_
      refine g_iload C0 6 d_Calling_callOnAndOn_83 rfl ?_
      obtain ⟨q85, v85, e85, hE⟩ := gA_some hE
      refine g_iald C0 4 rfl q85 d_Calling_callOnAndOn_85 ?_
      refine g_top e85 ?_
      obtain ⟨v86, z86, hE⟩ := bd_some hE
      refine g_calliP C0 nd_Calling [45, 46, 47, 48, 49, 10, 11, 12, 20, 21, 22, 15, 16, 17] rfl (sbW_self WCalling) (runV C0 (m_Calling_strokesTo l K ad h v85 z86) 1 rfl ⟨t_893, t_895, t_28, t_94, t_896⟩ cd_Calling_strokesTo (by decide) 0 rfl rfl (sbW_self WCalling) nd_Calling rfl rfl (Nat.le_of_ble_eq_true rfl) d_Calling_callOnAndOn_86) ?_
      refine g_iload C0 5 d_Calling_callOnAndOn_89 rfl ?_
      obtain ⟨h91, z91, hE⟩ := bd_some hE
      refine g_callv C0 nd_Calling [45, 46, 47, 48, 49, 10, 11, 12, 20, 21, 22, 15, 16, 17] rfl (sbW_self WCalling) (runV C0 (m_Calling_goOn l K ad h N v77 v86 x5 z91) 5 rfl ⟨t_879, t_881, t_25, t_94, t_882⟩ cd_Calling_goOn (by decide) 0 rfl rfl (sbW_self WCalling) nd_Calling rfl rfl (Nat.le_of_ble_eq_true rfl) d_Calling_callOnAndOn_91) ?_
      refine g_mx [45, 46, 47, 48, 49, 10, 11, 12, 20, 21, 22, 15, 16, 17] rfl ?_
      obtain ⟨v94, e94, hE⟩ := nm_some hE
      refine g_iinc C0 6 [(6, .int v94), (0, .ref (ad 45)), (1, .ref (ad 10)), (2, .ref (ad 20)), (3, .int x3), (4, .int x4), (5, .int x5)] d_Calling_callOnAndOn_94 rfl (by rw [e94]; rfl) (by decide) rfl ?_
      refine g_goto C0 (tgt := 51) d_Calling_callOnAndOn_97 (by decide) ?_
      refine g_sub [1, 2, 3, 4, 5, 6, 0] (L' := [(0, .ref (ad 45)), (1, .ref (ad 10)), (2, .ref (ad 20)), (3, .int x3), (4, .int x4), (5, .int x5), (6, .int v94)]) rfl ?_
      exact hk1 _ (Option.some.inj hE).symm
theorem w_Calling_callOnAndOn_L26 {p : Program} {l : Launch} {e : Env} {s : State} {m : MethodId} {args : Array Value} {below : List Frame} {meth : Method} {c : Code} {K : KT} {A : Nat → Prop} {Q : State → Prop} (C0 : Cx p s m args meth c prog_3_method_4_code "CanoeSides$Calling" 7 K A) (hr : meth.sig.returnType = (Option.none : Option Jvm.ClassFile.FieldType)) {ad : Nat → Nat} (N : Nat) (x3 : Int32) (x4 : Int32) (x5 : Int32) (h : Hp) {x_ : (Int32 × Hp) ⊕ (Hp)} (hE : K_Calling_callOnAndOn_L26 N x3 x4 x5 h = some x_) (hk1 : ∀ z_, x_ = .inl z_ → G p l e rm_Calling_callOnAndOn s m args below meth c K A WCalling 7 0 0 Q 26 [(0, .ref (ad 45)), (1, .ref (ad 10)), (2, .ref (ad 20)), (3, .int x3), (4, .int x4), (5, .int z_.1)] [] ad z_.2) (hk3 : ∀ z_, x_ = .inr z_ → G p l e rm_Calling_callOnAndOn s m args below meth c K A WCalling 7 0 0 Q 106 [(0, .ref (ad 45)), (1, .ref (ad 10)), (2, .ref (ad 20)), (3, .int x3)] [] ad z_) : G p l e rm_Calling_callOnAndOn s m args below meth c K A WCalling 7 0 0 Q 26 [(0, .ref (ad 45)), (1, .ref (ad 10)), (2, .ref (ad 20)), (3, .int x3), (4, .int x4), (5, .int x5)] [] ad h := by
  unfold K_Calling_callOnAndOn_L26 at hE
  refine g_iload C0 5 d_Calling_callOnAndOn_26 rfl ?_
  refine g_bipush C0 (v := 16) d_Calling_callOnAndOn_28 (by decide) ?_
  have hB := ite_some hE
  refine g_icmp_ge C0 (tgt := 106) d_Calling_callOnAndOn_30 (by decide) (fun c_ => ?_) (fun c_ => ?_)
  · replace hE := hB.1 c_
    refine g_sub [0, 1, 2, 3] (L' := [(0, .ref (ad 45)), (1, .ref (ad 10)), (2, .ref (ad 20)), (3, .int x3)]) rfl ?_
    exact hk3 _ (Option.some.inj hE).symm
  · replace hE := hB.2 c_
    refine g_iload C0 4 d_Calling_callOnAndOn_33 rfl ?_
    have hB := ite_some hE
    refine g_if_le C0 (tgt := 106) d_Calling_callOnAndOn_35 (by decide) (fun c_ => ?_) (fun c_ => ?_)
    · replace hE := hB.1 c_
      refine g_sub [0, 1, 2, 3] (L' := [(0, .ref (ad 45)), (1, .ref (ad 10)), (2, .ref (ad 20)), (3, .int x3)]) rfl ?_
      exact hk3 _ (Option.some.inj hE).symm
    · replace hE := hB.2 c_
      refine g_aload_n C0 0 d_Calling_callOnAndOn_38 rfl rfl ?_
      refine g_dup C0 d_Calling_callOnAndOn_39 rfl ?_
      refine g_geti C0 CK_1 4 (by decide) t_331 0 rfl rfl d_Calling_callOnAndOn_40 ?_
      refine g_iconst C0 (v := 1) d_Calling_callOnAndOn_43 (by decide) ?_
      refine g_iadd C0 d_Calling_callOnAndOn_44 ?_
      obtain ⟨h45, e45, hE⟩ := nm_some hE
      refine g_puti C0 CK_1 CT_1 4 (by decide) t_331 rfl (by decide +kernel) nd_Calling 0 rfl rfl d_Calling_callOnAndOn_45 ?_
      refine g_heap e45 ?_
      refine g_iconst C0 (v := 0) d_Calling_callOnAndOn_48 (by decide) ?_
      refine g_istore C0 [(6, .int 0), (0, .ref (ad 45)), (1, .ref (ad 10)), (2, .ref (ad 20)), (3, .int x3), (4, .int x4), (5, .int x5)] d_Calling_callOnAndOn_49 (by decide) rfl ?_
      refine g_sub [1, 2, 3, 4, 5, 6, 0] (L' := [(0, .ref (ad 45)), (1, .ref (ad 10)), (2, .ref (ad 20)), (3, .int x3), (4, .int x4), (5, .int x5), (6, .int 0)]) rfl ?_
      obtain ⟨t51, z51, hE⟩ := bd_some hE
      refine loopG (fun z_ : Int32 × Hp => K_Calling_callOnAndOn_L51 N x3 x4 x5 z_.1 z_.2) (fun z_ : Int32 × Hp => G p l e rm_Calling_callOnAndOn s m args below meth c K A WCalling 7 0 0 _ 51 [(0, .ref (ad 45)), (1, .ref (ad 10)), (2, .ref (ad 20)), (3, .int x3), (4, .int x4), (5, .int x5), (6, .int z_.1)] [] ad z_.2) (fun z_ : Hp => G p l e rm_Calling_callOnAndOn s m args below meth c K A WCalling 7 0 0 _ 100 [(0, .ref (ad 45)), (1, .ref (ad 10)), (2, .ref (ad 20)), (3, .int x3), (4, .int x4), (5, .int x5)] [] ad z_) (fun z_ x_ hz k1 k2 => w_Calling_callOnAndOn_L51 C0 hr N x3 x4 x5 z_.1 z_.2 hz k1 k2) _ _ _ z51 ?_
      try dsimp only
      obtain ⟨v100, e100, hE⟩ := nm_some hE
      refine g_iinc C0 5 [(5, .int v100), (0, .ref (ad 45)), (1, .ref (ad 10)), (2, .ref (ad 20)), (3, .int x3), (4, .int x4)] d_Calling_callOnAndOn_100 rfl (by rw [e100]; rfl) (by decide) rfl ?_
      refine g_goto C0 (tgt := 26) d_Calling_callOnAndOn_103 (by decide) ?_
      refine g_sub [1, 2, 3, 4, 5, 0] (L' := [(0, .ref (ad 45)), (1, .ref (ad 10)), (2, .ref (ad 20)), (3, .int x3), (4, .int x4), (5, .int v100)]) rfl ?_
      exact hk1 _ (Option.some.inj hE).symm
theorem w_Calling_callOnAndOn_L2 {p : Program} {l : Launch} {e : Env} {s : State} {m : MethodId} {args : Array Value} {below : List Frame} {meth : Method} {c : Code} {K : KT} {A : Nat → Prop} {Q : State → Prop} (C0 : Cx p s m args meth c prog_3_method_4_code "CanoeSides$Calling" 7 K A) (hr : meth.sig.returnType = (Option.none : Option Jvm.ClassFile.FieldType)) {ad : Nat → Nat} (N : Nat) (x3 : Int32) (h : Hp) {x_ : (Int32 × Hp) ⊕ (Int32 × Hp)} (hE : K_Calling_callOnAndOn_L2 N x3 h = some x_) (hk1 : ∀ z_, x_ = .inl z_ → G p l e rm_Calling_callOnAndOn s m args below meth c K A WCalling 7 0 0 Q 2 [(0, .ref (ad 45)), (1, .ref (ad 10)), (2, .ref (ad 20)), (3, .int z_.1)] [] ad z_.2) (hk3 : ∀ z_, x_ = .inr z_ → G p l e rm_Calling_callOnAndOn s m args below meth c K A WCalling 7 0 0 Q 112 [(0, .ref (ad 45)), (3, .int z_.1)] [] ad z_.2) : G p l e rm_Calling_callOnAndOn s m args below meth c K A WCalling 7 0 0 Q 2 [(0, .ref (ad 45)), (1, .ref (ad 10)), (2, .ref (ad 20)), (3, .int x3)] [] ad h := by
  unfold K_Calling_callOnAndOn_L2 at hE
  refine g_iload_n C0 3 d_Calling_callOnAndOn_2 rfl rfl ?_
  refine g_bipush C0 (v := 60) d_Calling_callOnAndOn_3 (by decide) ?_
  have hB := ite_some hE
  refine g_icmp_ge C0 (tgt := 112) d_Calling_callOnAndOn_5 (by decide) (fun c_ => ?_) (fun c_ => ?_)
  · replace hE := hB.1 c_
    refine g_sub [0, 3] (L' := [(0, .ref (ad 45)), (3, .int x3)]) rfl ?_
    exact hk3 _ (Option.some.inj hE).symm
  · replace hE := hB.2 c_
    refine g_aload_n C0 0 d_Calling_callOnAndOn_8 rfl rfl ?_
    refine g_geti C0 CK_1 5 (by decide) t_332 0 rfl rfl d_Calling_callOnAndOn_9 ?_
    refine g_bipush C0 (v := 99) d_Calling_callOnAndOn_12 (by decide) ?_
    have hB := ite_some hE
    refine g_icmp_ne C0 (tgt := 112) d_Calling_callOnAndOn_14 (by decide) (fun c_ => ?_) (fun c_ => ?_)
    · replace hE := hB.2 c_
      refine g_sub [0, 3] (L' := [(0, .ref (ad 45)), (3, .int x3)]) rfl ?_
      exact hk3 _ (Option.some.inj hE).symm
    · replace hE := hB.1 c_
      refine g_aload_n C0 0 d_Calling_callOnAndOn_17 rfl rfl ?_
      obtain ⟨v18, h18, z18, hE⟩ := bd2_some hE
      refine g_calli C0 nd_Calling [45, 46, 47, 48, 49, 10, 11, 12, 20, 21, 22, 15, 16, 17] rfl (sbW_self WCalling) (runV C0 (m_Calling_gatherSources l K ad h N z18) 0 rfl ⟨t_889, t_891, t_27, t_94, t_892⟩ cd_Calling_gatherSources (by decide) 0 rfl rfl (sbW_self WCalling) nd_Calling rfl rfl (Nat.le_of_ble_eq_true rfl) d_Calling_callOnAndOn_18) ?_
      refine g_mx [45, 46, 47, 48, 49, 10, 11, 12, 20, 21, 22, 15, 16, 17] rfl ?_
      refine g_istore C0 [(4, .int v18), (0, .ref (ad 45)), (1, .ref (ad 10)), (2, .ref (ad 20)), (3, .int x3)] d_Calling_callOnAndOn_21 (by decide) rfl ?_
      refine g_iconst C0 (v := 0) d_Calling_callOnAndOn_23 (by decide) ?_
      refine g_istore C0 [(5, .int 0), (4, .int v18), (0, .ref (ad 45)), (1, .ref (ad 10)), (2, .ref (ad 20)), (3, .int x3)] d_Calling_callOnAndOn_24 (by decide) rfl ?_
      refine g_sub [2, 3, 4, 5, 1, 0] (L' := [(0, .ref (ad 45)), (1, .ref (ad 10)), (2, .ref (ad 20)), (3, .int x3), (4, .int v18), (5, .int 0)]) rfl ?_
      obtain ⟨t26, z26, hE⟩ := bd_some hE
      refine loopG (fun z_ : Int32 × Hp => K_Calling_callOnAndOn_L26 N x3 v18 z_.1 z_.2) (fun z_ : Int32 × Hp => G p l e rm_Calling_callOnAndOn s m args below meth c K A WCalling 7 0 0 _ 26 [(0, .ref (ad 45)), (1, .ref (ad 10)), (2, .ref (ad 20)), (3, .int x3), (4, .int v18), (5, .int z_.1)] [] ad z_.2) (fun z_ : Hp => G p l e rm_Calling_callOnAndOn s m args below meth c K A WCalling 7 0 0 _ 106 [(0, .ref (ad 45)), (1, .ref (ad 10)), (2, .ref (ad 20)), (3, .int x3)] [] ad z_) (fun z_ x_ hz k1 k2 => w_Calling_callOnAndOn_L26 C0 hr N x3 v18 z_.1 z_.2 hz k1 k2) _ _ _ z26 ?_
      try dsimp only
      obtain ⟨v106, e106, hE⟩ := nm_some hE
      refine g_iinc C0 3 [(3, .int v106), (0, .ref (ad 45)), (1, .ref (ad 10)), (2, .ref (ad 20))] d_Calling_callOnAndOn_106 rfl (by rw [e106]; rfl) (by decide) rfl ?_
      refine g_goto C0 (tgt := 2) d_Calling_callOnAndOn_109 (by decide) ?_
      refine g_sub [1, 2, 3, 0] (L' := [(0, .ref (ad 45)), (1, .ref (ad 10)), (2, .ref (ad 20)), (3, .int v106)]) rfl ?_
      exact hk1 _ (Option.some.inj hE).symm
theorem w_Calling_callOnAndOn_J112 {p : Program} {l : Launch} {e : Env} {s : State} {m : MethodId} {args : Array Value} {below : List Frame} {meth : Method} {c : Code} {K : KT} {A : Nat → Prop} (C0 : Cx p s m args meth c prog_3_method_4_code "CanoeSides$Calling" 7 K A) (hr : meth.sig.returnType = (Option.none : Option Jvm.ClassFile.FieldType)) {ad : Nat → Nat} (N : Nat) (x3 : Int32) (h : Hp) {res : Hp} (hE : K_Calling_callOnAndOn_J112 N x3 h = some res) : G p l e rm_Calling_callOnAndOn s m args below meth c K A WCalling 7 0 0 (QV s args below K A WCalling 0 0 ad res) 112 [(0, .ref (ad 45)), (3, .int x3)] [] ad h := by
  unfold K_Calling_callOnAndOn_J112 at hE
  refine g_aload_n C0 0 d_Calling_callOnAndOn_112 rfl rfl ?_
  refine g_geti C0 CK_1 5 (by decide) t_332 0 rfl rfl d_Calling_callOnAndOn_113 ?_
  refine g_bipush C0 (v := 99) d_Calling_callOnAndOn_116 (by decide) ?_
  have hB := ite_some hE
  refine g_icmp_eq C0 (tgt := 134) d_Calling_callOnAndOn_118 (by decide) (fun c_ => ?_) (fun c_ => ?_)
  · replace hE := hB.1 c_
    obtain rfl := Option.some.inj hE
    exact g_vret C0 hr d_Calling_callOnAndOn_134
  · replace hE := hB.2 c_
    refine g_aload_n C0 0 d_Calling_callOnAndOn_121 rfl rfl ?_
    refine g_iload_n C0 1 d_Calling_callOnAndOn_122 rfl rfl ?_
    obtain ⟨h123, e123, hE⟩ := nm_some hE
    refine g_puti C0 CK_1 CT_1 6 (by decide) t_333 rfl (by decide +kernel) nd_Calling 0 rfl rfl d_Calling_callOnAndOn_123 ?_
    refine g_heap e123 ?_
    refine g_aload_n C0 0 d_Calling_callOnAndOn_126 rfl rfl ?_
    refine g_aload_n C0 0 d_Calling_callOnAndOn_127 rfl rfl ?_
    refine g_geti C0 CK_1 5 (by decide) t_332 0 rfl rfl d_Calling_callOnAndOn_128 ?_
    obtain ⟨h131, e131, hE⟩ := nm_some hE
    refine g_puti C0 CK_1 CT_1 7 (by decide) t_335 rfl (by decide +kernel) nd_Calling 0 rfl rfl d_Calling_callOnAndOn_131 ?_
    refine g_heap e131 ?_
    obtain rfl := Option.some.inj hE
    exact g_vret C0 hr d_Calling_callOnAndOn_134
theorem w_Calling_callOnAndOn {p : Program} {l : Launch} {e : Env} {s : State} {m : MethodId} {args : Array Value} {below : List Frame} {meth : Method} {c : Code} {K : KT} {A : Nat → Prop} (C0 : Cx p s m args meth c prog_3_method_4_code "CanoeSides$Calling" 7 K A) (hr : meth.sig.returnType = (Option.none : Option Jvm.ClassFile.FieldType)) {ad : Nat → Nat} (N : Nat) (h : Hp) {res : Hp} (hE : K_Calling_callOnAndOn N h = some res) : G p l e rm_Calling_callOnAndOn s m args below meth c K A WCalling 7 0 0 (QV s args below K A WCalling 0 0 ad res) 0 [(0, .ref (ad 45)), (1, .ref (ad 10)), (2, .ref (ad 20))] [] ad h := by
  unfold K_Calling_callOnAndOn at hE
  refine g_iconst C0 (v := 0) d_Calling_callOnAndOn_0 (by decide) ?_
  refine g_istore_n C0 [(3, .int 0), (0, .ref (ad 45)), (1, .ref (ad 10)), (2, .ref (ad 20))] d_Calling_callOnAndOn_1 rfl (by decide) rfl ?_
  refine g_sub [1, 2, 3, 0] (L' := [(0, .ref (ad 45)), (1, .ref (ad 10)), (2, .ref (ad 20)), (3, .int 0)]) rfl ?_
  obtain ⟨t2, z2, hE⟩ := bd_some hE
  refine loopG (fun z_ : Int32 × Hp => K_Calling_callOnAndOn_L2 N z_.1 z_.2) (fun z_ : Int32 × Hp => G p l e rm_Calling_callOnAndOn s m args below meth c K A WCalling 7 0 0 _ 2 [(0, .ref (ad 45)), (1, .ref (ad 10)), (2, .ref (ad 20)), (3, .int z_.1)] [] ad z_.2) (fun z_ : Int32 × Hp => G p l e rm_Calling_callOnAndOn s m args below meth c K A WCalling 7 0 0 _ 112 [(0, .ref (ad 45)), (3, .int z_.1)] [] ad z_.2) (fun z_ x_ hz k1 k2 => w_Calling_callOnAndOn_L2 C0 hr N z_.1 z_.2 hz k1 k2) _ _ _ z2 ?_
  try dsimp only
  exact w_Calling_callOnAndOn_J112 C0 hr N t2.1 t2.2 hE
theorem m_Calling_callOnAndOn (l : Launch) (K : KT) (ad : Nat → Nat) (h : Hp) (N : Nat) {res : Hp} (hE : K_Calling_callOnAndOn N h = some res) : ConV l y_Calling_callOnAndOn prog_3_method_4_code 7 (Option.none : Option Jvm.ClassFile.FieldType) rm_Calling_callOnAndOn K WCalling ad h [.ref (ad 45), .ref (ad 10), .ref (ad 20)] res := fun sz =>
  con_start [(0, .ref (ad 45)), (1, .ref (ad 10)), (2, .ref (ad 20))] (by decide +kernel) rfl (Nat.le_of_ble_eq_true rfl) (fun p e s m args below meth c C0 hr hnm hsz => w_Calling_callOnAndOn C0 hr N h hE)
abbrev y_Calling_look : MethodName := ⟨"CanoeSides$Calling", "look", "(LCanoeSides$River;LCanoeSides$Crew;II)V"⟩
abbrev rm_Calling_look : Room := { frames := 5, cells := 0, slots := 0, locals := 127 }
theorem cd_Calling_look : cwd y_Calling_look 4 := by decide +kernel
theorem d_Calling_look_0 : decode prog_3_method_3_code 0 = .ok (.iload_n 3, 1) := by decide +kernel
theorem d_Calling_look_1 : decode prog_3_method_3_code 1 = .ok (.bipush 16, 2) := by decide +kernel
theorem d_Calling_look_3 : decode prog_3_method_3_code 3 = .ok (.imul, 1) := by decide +kernel
theorem d_Calling_look_4 : decode prog_3_method_3_code 4 = .ok (.iload 4, 2) := by decide +kernel
theorem d_Calling_look_6 : decode prog_3_method_3_code 6 = .ok (.iadd, 1) := by decide +kernel
theorem d_Calling_look_7 : decode prog_3_method_3_code 7 = .ok (.istore 5, 2) := by decide +kernel
theorem d_Calling_look_9 : decode prog_3_method_3_code 9 = .ok (.iload 5, 2) := by decide +kernel
theorem d_Calling_look_11 : decode prog_3_method_3_code 11 = .ok (.aload_n 0, 1) := by decide +kernel
theorem d_Calling_look_12 : decode prog_3_method_3_code 12 = .ok (.getfield 37, 3) := by decide +kernel
theorem d_Calling_look_15 : decode prog_3_method_3_code 15 = .ok (.if_icmp .eq 16, 3) := by decide +kernel
theorem d_Calling_look_18 : decode prog_3_method_3_code 18 = .ok (.iload_n 3, 1) := by decide +kernel
theorem d_Calling_look_19 : decode prog_3_method_3_code 19 = .ok (.ifCond .lt 12, 3) := by decide +kernel
theorem d_Calling_look_22 : decode prog_3_method_3_code 22 = .ok (.iload_n 3, 1) := by decide +kernel
theorem d_Calling_look_23 : decode prog_3_method_3_code 23 = .ok (.aload_n 0, 1) := by decide +kernel
theorem d_Calling_look_24 : decode prog_3_method_3_code 24 = .ok (.getfield 15, 3) := by decide +kernel
theorem d_Calling_look_27 : decode prog_3_method_3_code 27 = .ok (.arraylength, 1) := by decide +kernel
theorem d_Calling_look_28 : decode prog_3_method_3_code 28 = .ok (.if_icmp .lt 4, 3) := by decide +kernel
theorem d_Calling_look_31 : decode prog_3_method_3_code 31 = .ok (.return_, 1) := by decide +kernel
theorem d_Calling_look_32 : decode prog_3_method_3_code 32 = .ok (.aload_n 0, 1) := by decide +kernel
theorem d_Calling_look_33 : decode prog_3_method_3_code 33 = .ok (.iload 5, 2) := by decide +kernel
theorem d_Calling_look_35 : decode prog_3_method_3_code 35 = .ok (.putfield 37, 3) := by decide +kernel
theorem d_Calling_look_38 : decode prog_3_method_3_code 38 = .ok (.aload_n 0, 1) := by decide +kernel
theorem d_Calling_look_39 : decode prog_3_method_3_code 39 = .ok (.iconst (-1), 1) := by decide +kernel
theorem d_Calling_look_40 : decode prog_3_method_3_code 40 = .ok (.putfield 31, 3) := by decide +kernel
theorem d_Calling_look_43 : decode prog_3_method_3_code 43 = .ok (.aload_n 0, 1) := by decide +kernel
theorem d_Calling_look_44 : decode prog_3_method_3_code 44 = .ok (.iconst (-1), 1) := by decide +kernel
theorem d_Calling_look_45 : decode prog_3_method_3_code 45 = .ok (.putfield 34, 3) := by decide +kernel
theorem d_Calling_look_48 : decode prog_3_method_3_code 48 = .ok (.aload_n 1, 1) := by decide +kernel
theorem d_Calling_look_49 : decode prog_3_method_3_code 49 = .ok (.getfield 40, 3) := by decide +kernel
theorem d_Calling_look_52 : decode prog_3_method_3_code 52 = .ok (.iconst (-1), 1) := by decide +kernel
theorem d_Calling_look_53 : decode prog_3_method_3_code 53 = .ok (.if_icmp .ne 4, 3) := by decide +kernel
theorem d_Calling_look_56 : decode prog_3_method_3_code 56 = .ok (.return_, 1) := by decide +kernel
theorem d_Calling_look_57 : decode prog_3_method_3_code 57 = .ok (.aload_n 0, 1) := by decide +kernel
theorem d_Calling_look_58 : decode prog_3_method_3_code 58 = .ok (.getfield 9, 3) := by decide +kernel
theorem d_Calling_look_61 : decode prog_3_method_3_code 61 = .ok (.bipush 99, 2) := by decide +kernel
theorem d_Calling_look_63 : decode prog_3_method_3_code 63 = .ok (.invokestatic 45, 3) := by decide +kernel
theorem d_Calling_look_66 : decode prog_3_method_3_code 66 = .ok (.aload_n 0, 1) := by decide +kernel
theorem d_Calling_look_67 : decode prog_3_method_3_code 67 = .ok (.getfield 15, 3) := by decide +kernel
theorem d_Calling_look_70 : decode prog_3_method_3_code 70 = .ok (.bipush 99, 2) := by decide +kernel
theorem d_Calling_look_72 : decode prog_3_method_3_code 72 = .ok (.invokestatic 45, 3) := by decide +kernel
theorem d_Calling_look_75 : decode prog_3_method_3_code 75 = .ok (.aload_n 0, 1) := by decide +kernel
theorem d_Calling_look_76 : decode prog_3_method_3_code 76 = .ok (.getfield 15, 3) := by decide +kernel
theorem d_Calling_look_79 : decode prog_3_method_3_code 79 = .ok (.iload_n 3, 1) := by decide +kernel
theorem d_Calling_look_80 : decode prog_3_method_3_code 80 = .ok (.iconst 0, 1) := by decide +kernel
theorem d_Calling_look_81 : decode prog_3_method_3_code 81 = .ok (.iastore, 1) := by decide +kernel
theorem d_Calling_look_82 : decode prog_3_method_3_code 82 = .ok (.aload_n 0, 1) := by decide +kernel
theorem d_Calling_look_83 : decode prog_3_method_3_code 83 = .ok (.aload_n 1, 1) := by decide +kernel
theorem d_Calling_look_84 : decode prog_3_method_3_code 84 = .ok (.iload_n 3, 1) := by decide +kernel
theorem d_Calling_look_85 : decode prog_3_method_3_code 85 = .ok (.sipush 384, 3) := by decide +kernel
theorem d_Calling_look_88 : decode prog_3_method_3_code 88 = .ok (.irem, 1) := by decide +kernel
theorem d_Calling_look_89 : decode prog_3_method_3_code 89 = .ok (.invokevirtual 51, 3) := by decide +kernel
theorem d_Calling_look_92 : decode prog_3_method_3_code 92 = .ok (.ifCond .eq 7, 3) := by decide +kernel
theorem d_Calling_look_95 : decode prog_3_method_3_code 95 = .ok (.iconst 0, 1) := by decide +kernel
theorem d_Calling_look_96 : decode prog_3_method_3_code 96 = .ok (.goto 5, 3) := by decide +kernel
theorem d_Calling_look_99 : decode prog_3_method_3_code 99 = .ok (.bipush 99, 2) := by decide +kernel
theorem d_Calling_look_101 : decode prog_3_method_3_code 101 = .ok (.putfield 28, 3) := by decide +kernel
theorem d_Calling_look_104 : decode prog_3_method_3_code 104 = .ok (.aload_n 0, 1) := by decide +kernel
theorem d_Calling_look_105 : decode prog_3_method_3_code 105 = .ok (.dup, 1) := by decide +kernel
theorem d_Calling_look_106 : decode prog_3_method_3_code 106 = .ok (.getfield 24, 3) := by decide +kernel
theorem d_Calling_look_109 : decode prog_3_method_3_code 109 = .ok (.iconst 1, 1) := by decide +kernel
theorem d_Calling_look_110 : decode prog_3_method_3_code 110 = .ok (.iadd, 1) := by decide +kernel
theorem d_Calling_look_111 : decode prog_3_method_3_code 111 = .ok (.putfield 24, 3) := by decide +kernel
theorem d_Calling_look_114 : decode prog_3_method_3_code 114 = .ok (.aload_n 0, 1) := by decide +kernel
theorem d_Calling_look_115 : decode prog_3_method_3_code 115 = .ok (.aload_n 1, 1) := by decide +kernel
theorem d_Calling_look_116 : decode prog_3_method_3_code 116 = .ok (.aload_n 2, 1) := by decide +kernel
theorem d_Calling_look_117 : decode prog_3_method_3_code 117 = .ok (.iload_n 3, 1) := by decide +kernel
theorem d_Calling_look_118 : decode prog_3_method_3_code 118 = .ok (.iconst 0, 1) := by decide +kernel
theorem d_Calling_look_119 : decode prog_3_method_3_code 119 = .ok (.iload 4, 2) := by decide +kernel
theorem d_Calling_look_121 : decode prog_3_method_3_code 121 = .ok (.invokevirtual 55, 3) := by decide +kernel
theorem d_Calling_look_124 : decode prog_3_method_3_code 124 = .ok (.aload_n 0, 1) := by decide +kernel
theorem d_Calling_look_125 : decode prog_3_method_3_code 125 = .ok (.aload_n 1, 1) := by decide +kernel
theorem d_Calling_look_126 : decode prog_3_method_3_code 126 = .ok (.aload_n 2, 1) := by decide +kernel
theorem d_Calling_look_127 : decode prog_3_method_3_code 127 = .ok (.invokevirtual 59, 3) := by decide +kernel
theorem d_Calling_look_130 : decode prog_3_method_3_code 130 = .ok (.return_, 1) := by decide +kernel
theorem w_Calling_look_J101 {p : Program} {l : Launch} {e : Env} {s : State} {m : MethodId} {args : Array Value} {below : List Frame} {meth : Method} {c : Code} {K : KT} {A : Nat → Prop} (C0 : Cx p s m args meth c prog_3_method_3_code "CanoeSides$Calling" 6 K A) (hr : meth.sig.returnType = (Option.none : Option Jvm.ClassFile.FieldType)) {ad : Nat → Nat} (N : Nat) (x3 : Int32) (x4 : Int32) (y1 : Int32) (h : Hp) {res : Hp} (hE : K_Calling_look_J101 N x3 x4 y1 h = some res) : G p l e rm_Calling_look s m args below meth c K A WCalling 6 0 0 (QV s args below K A WCalling 0 0 ad res) 101 [(0, .ref (ad 45)), (1, .ref (ad 10)), (2, .ref (ad 20)), (3, .int x3), (4, .int x4)] [.int y1, .ref (ad 45)] ad h := by
  unfold K_Calling_look_J101 at hE
  obtain ⟨h101, e101, hE⟩ := nm_some hE
  refine g_puti C0 CK_1 CT_1 5 (by decide) t_332 rfl (by decide +kernel) nd_Calling 0 rfl rfl d_Calling_look_101 ?_
  refine g_heap e101 ?_
  refine g_aload_n C0 0 d_Calling_look_104 rfl rfl ?_
  refine g_dup C0 d_Calling_look_105 rfl ?_
  refine g_geti C0 CK_1 4 (by decide) t_331 0 rfl rfl d_Calling_look_106 ?_
  refine g_iconst C0 (v := 1) d_Calling_look_109 (by decide) ?_
  refine g_iadd C0 d_Calling_look_110 ?_
  obtain ⟨h111, e111, hE⟩ := nm_some hE
  refine g_puti C0 CK_1 CT_1 4 (by decide) t_331 rfl (by decide +kernel) nd_Calling 0 rfl rfl d_Calling_look_111 ?_
  refine g_heap e111 ?_
  refine g_aload_n C0 0 d_Calling_look_114 rfl rfl ?_
  refine g_aload_n C0 1 d_Calling_look_115 rfl rfl ?_
  refine g_aload_n C0 2 d_Calling_look_116 rfl rfl ?_
  refine g_iload_n C0 3 d_Calling_look_117 rfl rfl ?_
  refine g_iconst C0 (v := 0) d_Calling_look_118 (by decide) ?_
  refine g_iload C0 4 d_Calling_look_119 rfl ?_
  obtain ⟨h121, z121, hE⟩ := bd_some hE
  refine g_callv C0 nd_Calling [45, 46, 47, 48, 49, 10, 11, 12, 20, 21, 22, 15, 16, 17] rfl (sbW_self WCalling) (runV C0 (m_Calling_goOn l K ad h111 N x3 0 x4 z121) 5 rfl ⟨t_879, t_881, t_25, t_94, t_882⟩ cd_Calling_goOn (by decide) 0 rfl rfl (sbW_self WCalling) nd_Calling rfl rfl (Nat.le_of_ble_eq_true rfl) d_Calling_look_121) ?_
  refine g_mx [45, 46, 47, 48, 49, 10, 11, 12, 20, 21, 22, 15, 16, 17] rfl ?_
  refine g_aload_n C0 0 d_Calling_look_124 rfl rfl ?_
  refine g_aload_n C0 1 d_Calling_look_125 rfl rfl ?_
  refine g_aload_n C0 2 d_Calling_look_126 rfl rfl ?_
  obtain ⟨h127, z127, hE⟩ := bd_some hE
  refine g_callv C0 nd_Calling [45, 46, 47, 48, 49, 10, 11, 12, 20, 21, 22, 15, 16, 17] rfl (sbW_self WCalling) (runV C0 (m_Calling_callOnAndOn l K ad h121 N z127) 2 rfl ⟨t_885, t_887, t_26, t_94, t_888⟩ cd_Calling_callOnAndOn (by decide) 0 rfl rfl (sbW_self WCalling) nd_Calling rfl rfl (Nat.le_of_ble_eq_true rfl) d_Calling_look_127) ?_
  refine g_mx [45, 46, 47, 48, 49, 10, 11, 12, 20, 21, 22, 15, 16, 17] rfl ?_
  obtain rfl := Option.some.inj hE
  exact g_vret C0 hr d_Calling_look_130
theorem w_Calling_look {p : Program} {l : Launch} {e : Env} {s : State} {m : MethodId} {args : Array Value} {below : List Frame} {meth : Method} {c : Code} {K : KT} {A : Nat → Prop} (C0 : Cx p s m args meth c prog_3_method_3_code "CanoeSides$Calling" 6 K A) (hr : meth.sig.returnType = (Option.none : Option Jvm.ClassFile.FieldType)) {ad : Nat → Nat} (N : Nat) (c0 : Int32) (d0 : Int32) (h : Hp) {res : Hp} (hE : K_Calling_look N c0 d0 h = some res) : G p l e rm_Calling_look s m args below meth c K A WCalling 6 0 0 (QV s args below K A WCalling 0 0 ad res) 0 [(0, .ref (ad 45)), (1, .ref (ad 10)), (2, .ref (ad 20)), (3, .int c0), (4, .int d0)] [] ad h := by
  unfold K_Calling_look at hE
  refine g_iload_n C0 3 d_Calling_look_0 rfl rfl ?_
  refine g_bipush C0 (v := 16) d_Calling_look_1 (by decide) ?_
  refine g_imul C0 d_Calling_look_3 ?_
  refine g_iload C0 4 d_Calling_look_4 rfl ?_
  refine g_iadd C0 d_Calling_look_6 ?_
  obtain ⟨v7, e7, hE⟩ := nm_some hE
  refine g_top e7 ?_
  refine g_istore C0 [(5, .int v7), (0, .ref (ad 45)), (1, .ref (ad 10)), (2, .ref (ad 20)), (3, .int c0), (4, .int d0)] d_Calling_look_7 (by decide) rfl ?_
  refine g_iload C0 0 d_Calling_look_9 rfl ?_
  refine g_aload_n C0 1 d_Calling_look_11 rfl rfl ?_
  refine g_geti C0 CK_1 8 (by decide) t_337 0 rfl rfl d_Calling_look_12 ?_
  have hB := ite_some hE
  refine g_icmp_eq C0 (tgt := 31) d_Calling_look_15 (by decide) (fun c_ => ?_) (fun c_ => ?_)
  · replace hE := hB.1 c_
    obtain rfl := Option.some.inj hE
    exact g_vret C0 hr d_Calling_look_31
  · replace hE := hB.2 c_
    refine g_iload_n C0 4 d_Calling_look_18 rfl rfl ?_
    have hB := ite_some hE
    refine g_if_lt C0 (tgt := 31) d_Calling_look_19 (by decide) (fun c_ => ?_) (fun c_ => ?_)
    · replace hE := hB.1 c_
      obtain rfl := Option.some.inj hE
      exact g_vret C0 hr d_Calling_look_31
    · replace hE := hB.2 c_
      refine g_iload_n C0 4 d_Calling_look_22 rfl rfl ?_
      refine g_aload_n C0 1 d_Calling_look_23 rfl rfl ?_
      refine g_getr C0 CK_1 1 (by decide) t_328 0 rfl rfl d_Calling_look_24 ?_
      refine g_alen C0 2 rfl rfl (v := 3456) (by decide) d_Calling_look_27 ?_
      have hB := ite_some hE
      refine g_icmp_lt C0 (tgt := 32) d_Calling_look_28 (by decide) (fun c_ => ?_) (fun c_ => ?_)
      · replace hE := hB.1 c_
        refine g_aload_n C0 1 d_Calling_look_32 rfl rfl ?_
        refine g_iload C0 0 d_Calling_look_33 rfl ?_
        obtain ⟨h35, e35, hE⟩ := nm_some hE
        refine g_puti C0 CK_1 CT_1 8 (by decide) t_337 rfl (by decide +kernel) nd_Calling 0 rfl rfl d_Calling_look_35 ?_
        refine g_heap e35 ?_
        refine g_aload_n C0 1 d_Calling_look_38 rfl rfl ?_
        refine g_iconst C0 (v := (-1)) d_Calling_look_39 (by decide) ?_
        obtain ⟨h40, e40, hE⟩ := nm_some hE
        refine g_puti C0 CK_1 CT_1 6 (by decide) t_333 rfl (by decide +kernel) nd_Calling 0 rfl rfl d_Calling_look_40 ?_
        refine g_heap e40 ?_
        refine g_aload_n C0 1 d_Calling_look_43 rfl rfl ?_
        refine g_iconst C0 (v := (-1)) d_Calling_look_44 (by decide) ?_
        obtain ⟨h45, e45, hE⟩ := nm_some hE
        refine g_puti C0 CK_1 CT_1 7 (by decide) t_335 rfl (by decide +kernel) nd_Calling 0 rfl rfl d_Calling_look_45 ?_
        refine g_heap e45 ?_
        refine g_aload_n C0 2 d_Calling_look_48 rfl rfl ?_
        refine g_getiN C0 CK_7 8 (by decide) t_150 5 rfl rfl d_Calling_look_49 ?_
        refine g_iconst C0 (v := (-1)) d_Calling_look_52 (by decide) ?_
        have hB := ite_some hE
        refine g_icmp_ne C0 (tgt := 57) d_Calling_look_53 (by decide) (fun c_ => ?_) (fun c_ => ?_)
        · replace hE := hB.2 c_
          refine g_aload_n C0 1 d_Calling_look_57 rfl rfl ?_
          refine g_getr C0 CK_1 0 (by decide) t_327 0 rfl rfl d_Calling_look_58 ?_
          refine g_bipush C0 (v := 99) d_Calling_look_61 (by decide) ?_
          obtain ⟨h63, e63, hE⟩ := nm_some hE
          refine g_fill C0 t_877 (by decide) 1 rfl (by decide) nd_Calling (Nat.le_of_ble_eq_true rfl) d_Calling_look_63 ?_
          refine g_heap e63 ?_
          refine g_aload_n C0 1 d_Calling_look_66 rfl rfl ?_
          refine g_getr C0 CK_1 1 (by decide) t_328 0 rfl rfl d_Calling_look_67 ?_
          refine g_bipush C0 (v := 99) d_Calling_look_70 (by decide) ?_
          obtain ⟨h72, e72, hE⟩ := nm_some hE
          refine g_fill C0 t_877 (by decide) 2 rfl (by decide) nd_Calling (Nat.le_of_ble_eq_true rfl) d_Calling_look_72 ?_
          refine g_heap e72 ?_
          refine g_aload_n C0 1 d_Calling_look_75 rfl rfl ?_
          refine g_getr C0 CK_1 1 (by decide) t_328 0 rfl rfl d_Calling_look_76 ?_
          refine g_iload_n C0 4 d_Calling_look_79 rfl rfl ?_
          refine g_iconst C0 (v := 0) d_Calling_look_80 (by decide) ?_
          obtain ⟨q81, hE⟩ := sA_some hE
          obtain ⟨h81, e81, hE⟩ := nm_some hE
          refine g_iast C0 2 rfl nd_Calling q81 d_Calling_look_81 ?_
          refine g_heap e81 ?_
          refine g_aload_n C0 1 d_Calling_look_82 rfl rfl ?_
          refine g_aload_n C0 2 d_Calling_look_83 rfl rfl ?_
          refine g_iload_n C0 4 d_Calling_look_84 rfl rfl ?_
          refine g_sipush C0 (v := 384) d_Calling_look_85 (by decide) ?_
          refine g_irem C0 d_Calling_look_88 (by decide) ?_
          obtain ⟨v89, z89, hE⟩ := bd_some hE
          refine g_calliP C0 nd_Calling [10, 11, 12] rfl (sb_River_Calling) (runV C0 (m_River_isGoal l K ad h81 (rm32 c0 384) z89) 1 rfl ⟨t_878, t_730, t_731, t_86, t_732⟩ cd_River_isGoal (by decide) 5 rfl rfl (sb_River_Calling) nd_River rfl rfl (Nat.le_of_ble_eq_true rfl) d_Calling_look_89) ?_
          have hB := ite_some hE
          refine g_if_eq C0 (tgt := 99) d_Calling_look_92 (by decide) (fun c_ => ?_) (fun c_ => ?_)
          · replace hE := hB.1 c_
            refine g_bipush C0 (v := 99) d_Calling_look_99 (by decide) ?_
            refine g_sub [1, 2, 3, 4, 5] (L' := [(0, .ref (ad 45)), (1, .ref (ad 10)), (2, .ref (ad 20)), (3, .int c0), (4, .int d0)]) rfl ?_
            exact w_Calling_look_J101 C0 hr N c0 d0 99 h81 hE
          · replace hE := hB.2 c_
            refine g_iconst C0 (v := 0) d_Calling_look_95 (by decide) ?_
            refine g_goto C0 (tgt := 101) d_Calling_look_96 (by decide) ?_
            refine g_sub [1, 2, 3, 4, 5] (L' := [(0, .ref (ad 45)), (1, .ref (ad 10)), (2, .ref (ad 20)), (3, .int c0), (4, .int d0)]) rfl ?_
            exact w_Calling_look_J101 C0 hr N c0 d0 0 h81 hE
        · replace hE := hB.1 c_
          obtain rfl := Option.some.inj hE
          exact g_vret C0 hr d_Calling_look_56
      · replace hE := hB.2 c_
        obtain rfl := Option.some.inj hE
        exact g_vret C0 hr d_Calling_look_31
theorem m_Calling_look (l : Launch) (K : KT) (ad : Nat → Nat) (h : Hp) (N : Nat) (c0 : Int32) (d0 : Int32) {res : Hp} (hE : K_Calling_look N c0 d0 h = some res) : ConV l y_Calling_look prog_3_method_3_code 6 (Option.none : Option Jvm.ClassFile.FieldType) rm_Calling_look K WCalling ad h [.ref (ad 45), .ref (ad 10), .ref (ad 20), .int c0, .int d0] res := fun sz =>
  con_start [(0, .ref (ad 45)), (1, .ref (ad 10)), (2, .ref (ad 20)), (3, .int c0), (4, .int d0)] (by decide +kernel) rfl (Nat.le_of_ble_eq_true rfl) (fun p e s m args below meth c C0 hr hnm hsz => w_Calling_look C0 hr N c0 d0 h hE)
abbrev y_Crew_turning : MethodName := ⟨"CanoeSides$Crew", "turning", "(I)I"⟩
abbrev rm_Crew_turning : Room := { frames := 0, cells := 0, slots := 0, locals := 0 }
theorem cd_Crew_turning : cwd y_Crew_turning 1 := by decide +kernel
theorem d_Crew_turning_0 : decode prog_4_method_3_code 0 = .ok (.iload_n 0, 1) := by decide +kernel
theorem d_Crew_turning_1 : decode prog_4_method_3_code 1 = .ok (.ifCond .ne 7, 3) := by decide +kernel
theorem d_Crew_turning_4 : decode prog_4_method_3_code 4 = .ok (.iconst 1, 1) := by decide +kernel
theorem d_Crew_turning_5 : decode prog_4_method_3_code 5 = .ok (.goto 13, 3) := by decide +kernel
theorem d_Crew_turning_8 : decode prog_4_method_3_code 8 = .ok (.iload_n 0, 1) := by decide +kernel
theorem d_Crew_turning_9 : decode prog_4_method_3_code 9 = .ok (.iconst 1, 1) := by decide +kernel
theorem d_Crew_turning_10 : decode prog_4_method_3_code 10 = .ok (.if_icmp .ne 7, 3) := by decide +kernel
theorem d_Crew_turning_13 : decode prog_4_method_3_code 13 = .ok (.iconst (-1), 1) := by decide +kernel
theorem d_Crew_turning_14 : decode prog_4_method_3_code 14 = .ok (.goto 4, 3) := by decide +kernel
theorem d_Crew_turning_17 : decode prog_4_method_3_code 17 = .ok (.iconst 0, 1) := by decide +kernel
theorem d_Crew_turning_18 : decode prog_4_method_3_code 18 = .ok (.ireturn, 1) := by decide +kernel
theorem w_Crew_turning {p : Program} {l : Launch} {e : Env} {s : State} {m : MethodId} {args : Array Value} {below : List Frame} {meth : Method} {c : Code} {K : KT} {A : Nat → Prop} (C0 : Cx p s m args meth c prog_4_method_3_code "CanoeSides$Crew" 1 K A) (hr : meth.sig.returnType = (Option.some Jvm.ClassFile.FieldType.int)) {ad : Nat → Nat} (a0 : Int32) (h : Hp) {res : Int32} (hE : K_Crew_turning a0 = some res) : G p l e rm_Crew_turning s m args below meth c K A WE 1 0 0 (QI s args below K A WE 0 0 ad res h) 0 [(0, .int a0)] [] ad h := by
  unfold K_Crew_turning at hE
  refine g_iload_n C0 0 d_Crew_turning_0 rfl rfl ?_
  have hB := ite_some hE
  refine g_if_ne C0 (tgt := 8) d_Crew_turning_1 (by decide) (fun c_ => ?_) (fun c_ => ?_)
  · replace hE := hB.2 c_
    refine g_iload_n C0 0 d_Crew_turning_8 rfl rfl ?_
    refine g_iconst C0 (v := 1) d_Crew_turning_9 (by decide) ?_
    have hB := ite_some hE
    refine g_icmp_ne C0 (tgt := 17) d_Crew_turning_10 (by decide) (fun c_ => ?_) (fun c_ => ?_)
    · replace hE := hB.2 c_
      refine g_iconst C0 (v := 0) d_Crew_turning_17 (by decide) ?_
      obtain rfl := Option.some.inj hE
      exact g_iret C0 hr d_Crew_turning_18
    · replace hE := hB.1 c_
      refine g_iconst C0 (v := (-1)) d_Crew_turning_13 (by decide) ?_
      refine g_goto C0 (tgt := 18) d_Crew_turning_14 (by decide) ?_
      obtain rfl := Option.some.inj hE
      exact g_iret C0 hr d_Crew_turning_18
  · replace hE := hB.1 c_
    refine g_iconst C0 (v := 1) d_Crew_turning_4 (by decide) ?_
    refine g_goto C0 (tgt := 18) d_Crew_turning_5 (by decide) ?_
    obtain rfl := Option.some.inj hE
    exact g_iret C0 hr d_Crew_turning_18
theorem m_Crew_turning (l : Launch) (K : KT) (ad : Nat → Nat) (h : Hp) (a0 : Int32) {res : Int32} (hE : K_Crew_turning a0 = some res) : ConI l y_Crew_turning prog_4_method_3_code 1 (Option.some Jvm.ClassFile.FieldType.int) rm_Crew_turning K WE ad h [.int a0] res h := fun sz =>
  con_start [(0, .int a0)] (by decide +kernel) rfl (Nat.le_of_ble_eq_true rfl) (fun p e s m args below meth c C0 hr hnm hsz => w_Crew_turning C0 hr a0 h hE)
abbrev y_Crew_pushing : MethodName := ⟨"CanoeSides$Crew", "pushing", "(I)I"⟩
abbrev rm_Crew_pushing : Room := { frames := 0, cells := 0, slots := 0, locals := 0 }
theorem cd_Crew_pushing : cwd y_Crew_pushing 1 := by decide +kernel
theorem d_Crew_pushing_0 : decode prog_4_method_4_code 0 = .ok (.iload_n 0, 1) := by decide +kernel
theorem d_Crew_pushing_1 : decode prog_4_method_4_code 1 = .ok (.iconst 2, 1) := by decide +kernel
theorem d_Crew_pushing_2 : decode prog_4_method_4_code 2 = .ok (.if_icmp .ne 7, 3) := by decide +kernel
theorem d_Crew_pushing_5 : decode prog_4_method_4_code 5 = .ok (.iconst (-1), 1) := by decide +kernel
theorem d_Crew_pushing_6 : decode prog_4_method_4_code 6 = .ok (.goto 13, 3) := by decide +kernel
theorem d_Crew_pushing_9 : decode prog_4_method_4_code 9 = .ok (.iload_n 0, 1) := by decide +kernel
theorem d_Crew_pushing_10 : decode prog_4_method_4_code 10 = .ok (.iconst 3, 1) := by decide +kernel
theorem d_Crew_pushing_11 : decode prog_4_method_4_code 11 = .ok (.if_icmp .ne 7, 3) := by decide +kernel
theorem d_Crew_pushing_14 : decode prog_4_method_4_code 14 = .ok (.iconst 0, 1) := by decide +kernel
theorem d_Crew_pushing_15 : decode prog_4_method_4_code 15 = .ok (.goto 4, 3) := by decide +kernel
theorem d_Crew_pushing_18 : decode prog_4_method_4_code 18 = .ok (.iconst 1, 1) := by decide +kernel
theorem d_Crew_pushing_19 : decode prog_4_method_4_code 19 = .ok (.ireturn, 1) := by decide +kernel
theorem w_Crew_pushing {p : Program} {l : Launch} {e : Env} {s : State} {m : MethodId} {args : Array Value} {below : List Frame} {meth : Method} {c : Code} {K : KT} {A : Nat → Prop} (C0 : Cx p s m args meth c prog_4_method_4_code "CanoeSides$Crew" 1 K A) (hr : meth.sig.returnType = (Option.some Jvm.ClassFile.FieldType.int)) {ad : Nat → Nat} (a0 : Int32) (h : Hp) {res : Int32} (hE : K_Crew_pushing a0 = some res) : G p l e rm_Crew_pushing s m args below meth c K A WE 1 0 0 (QI s args below K A WE 0 0 ad res h) 0 [(0, .int a0)] [] ad h := by
  unfold K_Crew_pushing at hE
  refine g_iload_n C0 0 d_Crew_pushing_0 rfl rfl ?_
  refine g_iconst C0 (v := 2) d_Crew_pushing_1 (by decide) ?_
  have hB := ite_some hE
  refine g_icmp_ne C0 (tgt := 9) d_Crew_pushing_2 (by decide) (fun c_ => ?_) (fun c_ => ?_)
  · replace hE := hB.2 c_
    refine g_iload_n C0 0 d_Crew_pushing_9 rfl rfl ?_
    refine g_iconst C0 (v := 3) d_Crew_pushing_10 (by decide) ?_
    have hB := ite_some hE
    refine g_icmp_ne C0 (tgt := 18) d_Crew_pushing_11 (by decide) (fun c_ => ?_) (fun c_ => ?_)
    · replace hE := hB.2 c_
      refine g_iconst C0 (v := 1) d_Crew_pushing_18 (by decide) ?_
      obtain rfl := Option.some.inj hE
      exact g_iret C0 hr d_Crew_pushing_19
    · replace hE := hB.1 c_
      refine g_iconst C0 (v := 0) d_Crew_pushing_14 (by decide) ?_
      refine g_goto C0 (tgt := 19) d_Crew_pushing_15 (by decide) ?_
      obtain rfl := Option.some.inj hE
      exact g_iret C0 hr d_Crew_pushing_19
  · replace hE := hB.1 c_
    refine g_iconst C0 (v := (-1)) d_Crew_pushing_5 (by decide) ?_
    refine g_goto C0 (tgt := 19) d_Crew_pushing_6 (by decide) ?_
    obtain rfl := Option.some.inj hE
    exact g_iret C0 hr d_Crew_pushing_19
theorem m_Crew_pushing (l : Launch) (K : KT) (ad : Nat → Nat) (h : Hp) (a0 : Int32) {res : Int32} (hE : K_Crew_pushing a0 = some res) : ConI l y_Crew_pushing prog_4_method_4_code 1 (Option.some Jvm.ClassFile.FieldType.int) rm_Crew_pushing K WE ad h [.int a0] res h := fun sz =>
  con_start [(0, .int a0)] (by decide +kernel) rfl (Nat.le_of_ble_eq_true rfl) (fun p e s m args below meth c C0 hr hnm hsz => w_Crew_pushing C0 hr a0 h hE)
abbrev y_Crew_take : MethodName := ⟨"CanoeSides$Crew", "take", "(LCanoeSides$River;I)V"⟩
abbrev rm_Crew_take : Room := { frames := 1, cells := 0, slots := 0, locals := 21 }
theorem cd_Crew_take : cwd y_Crew_take 2 := by decide +kernel
theorem d_Crew_take_0 : decode prog_4_method_2_code 0 = .ok (.aload_n 1, 1) := by decide +kernel
theorem d_Crew_take_1 : decode prog_4_method_2_code 1 = .ok (.getfield 22, 3) := by decide +kernel
theorem d_Crew_take_4 : decode prog_4_method_2_code 4 = .ok (.iload_n 2, 1) := by decide +kernel
theorem d_Crew_take_5 : decode prog_4_method_2_code 5 = .ok (.iadd, 1) := by decide +kernel
theorem d_Crew_take_6 : decode prog_4_method_2_code 6 = .ok (.istore_n 3, 1) := by decide +kernel
theorem d_Crew_take_7 : decode prog_4_method_2_code 7 = .ok (.aload_n 1, 1) := by decide +kernel
theorem d_Crew_take_8 : decode prog_4_method_2_code 8 = .ok (.getfield 28, 3) := by decide +kernel
theorem d_Crew_take_11 : decode prog_4_method_2_code 11 = .ok (.istore 4, 2) := by decide +kernel
theorem d_Crew_take_13 : decode prog_4_method_2_code 13 = .ok (.iconst 0, 1) := by decide +kernel
theorem d_Crew_take_14 : decode prog_4_method_2_code 14 = .ok (.istore 5, 2) := by decide +kernel
theorem d_Crew_take_16 : decode prog_4_method_2_code 16 = .ok (.iload 5, 2) := by decide +kernel
theorem d_Crew_take_18 : decode prog_4_method_2_code 18 = .ok (.bipush 16, 2) := by decide +kernel
theorem d_Crew_take_20 : decode prog_4_method_2_code 20 = .ok (.if_icmp .ge 120, 3) := by decide +kernel
theorem d_Crew_take_23 : decode prog_4_method_2_code 23 = .ok (.iload 5, 2) := by decide +kernel
theorem d_Crew_take_25 : decode prog_4_method_2_code 25 = .ok (.aload_n 0, 1) := by decide +kernel
theorem d_Crew_take_26 : decode prog_4_method_2_code 26 = .ok (.getfield 9, 3) := by decide +kernel
theorem d_Crew_take_29 : decode prog_4_method_2_code 29 = .ok (.arraylength, 1) := by decide +kernel
theorem d_Crew_take_30 : decode prog_4_method_2_code 30 = .ok (.if_icmp .ge 110, 3) := by decide +kernel
theorem d_Crew_take_33 : decode prog_4_method_2_code 33 = .ok (.iload 5, 2) := by decide +kernel
theorem d_Crew_take_35 : decode prog_4_method_2_code 35 = .ok (.aload_n 0, 1) := by decide +kernel
theorem d_Crew_take_36 : decode prog_4_method_2_code 36 = .ok (.getfield 15, 3) := by decide +kernel
theorem d_Crew_take_39 : decode prog_4_method_2_code 39 = .ok (.arraylength, 1) := by decide +kernel
theorem d_Crew_take_40 : decode prog_4_method_2_code 40 = .ok (.if_icmp .ge 100, 3) := by decide +kernel
theorem d_Crew_take_43 : decode prog_4_method_2_code 43 = .ok (.iload 5, 2) := by decide +kernel
theorem d_Crew_take_45 : decode prog_4_method_2_code 45 = .ok (.iconst 4, 1) := by decide +kernel
theorem d_Crew_take_46 : decode prog_4_method_2_code 46 = .ok (.idiv, 1) := by decide +kernel
theorem d_Crew_take_47 : decode prog_4_method_2_code 47 = .ok (.istore 6, 2) := by decide +kernel
theorem d_Crew_take_49 : decode prog_4_method_2_code 49 = .ok (.iload 5, 2) := by decide +kernel
theorem d_Crew_take_51 : decode prog_4_method_2_code 51 = .ok (.iconst 4, 1) := by decide +kernel
theorem d_Crew_take_52 : decode prog_4_method_2_code 52 = .ok (.irem, 1) := by decide +kernel
theorem d_Crew_take_53 : decode prog_4_method_2_code 53 = .ok (.istore 7, 2) := by decide +kernel
theorem d_Crew_take_55 : decode prog_4_method_2_code 55 = .ok (.aload_n 0, 1) := by decide +kernel
theorem d_Crew_take_56 : decode prog_4_method_2_code 56 = .ok (.getfield 9, 3) := by decide +kernel
theorem d_Crew_take_59 : decode prog_4_method_2_code 59 = .ok (.iload 5, 2) := by decide +kernel
theorem d_Crew_take_61 : decode prog_4_method_2_code 61 = .ok (.iload_n 3, 1) := by decide +kernel
theorem d_Crew_take_62 : decode prog_4_method_2_code 62 = .ok (.iload 6, 2) := by decide +kernel
theorem d_Crew_take_64 : decode prog_4_method_2_code 64 = .ok (.invokestatic 31, 3) := by decide +kernel
theorem d_Crew_take_67 : decode prog_4_method_2_code 67 = .ok (.imul, 1) := by decide +kernel
theorem d_Crew_take_68 : decode prog_4_method_2_code 68 = .ok (.iconst 2, 1) := by decide +kernel
theorem d_Crew_take_69 : decode prog_4_method_2_code 69 = .ok (.iload 4, 2) := by decide +kernel
theorem d_Crew_take_71 : decode prog_4_method_2_code 71 = .ok (.imul, 1) := by decide +kernel
theorem d_Crew_take_72 : decode prog_4_method_2_code 72 = .ok (.iload 7, 2) := by decide +kernel
theorem d_Crew_take_74 : decode prog_4_method_2_code 74 = .ok (.invokestatic 31, 3) := by decide +kernel
theorem d_Crew_take_77 : decode prog_4_method_2_code 77 = .ok (.imul, 1) := by decide +kernel
theorem d_Crew_take_78 : decode prog_4_method_2_code 78 = .ok (.iadd, 1) := by decide +kernel
theorem d_Crew_take_79 : decode prog_4_method_2_code 79 = .ok (.iconst 1, 1) := by decide +kernel
theorem d_Crew_take_80 : decode prog_4_method_2_code 80 = .ok (.aload_n 1, 1) := by decide +kernel
theorem d_Crew_take_81 : decode prog_4_method_2_code 81 = .ok (.getfield 35, 3) := by decide +kernel
theorem d_Crew_take_84 : decode prog_4_method_2_code 84 = .ok (.invokestatic 38, 3) := by decide +kernel
theorem d_Crew_take_87 : decode prog_4_method_2_code 87 = .ok (.idiv, 1) := by decide +kernel
theorem d_Crew_take_88 : decode prog_4_method_2_code 88 = .ok (.iastore, 1) := by decide +kernel
theorem d_Crew_take_89 : decode prog_4_method_2_code 89 = .ok (.iload_n 3, 1) := by decide +kernel
theorem d_Crew_take_90 : decode prog_4_method_2_code 90 = .ok (.iload 6, 2) := by decide +kernel
theorem d_Crew_take_92 : decode prog_4_method_2_code 92 = .ok (.invokestatic 44, 3) := by decide +kernel
theorem d_Crew_take_95 : decode prog_4_method_2_code 95 = .ok (.imul, 1) := by decide +kernel
theorem d_Crew_take_96 : decode prog_4_method_2_code 96 = .ok (.iload 4, 2) := by decide +kernel
theorem d_Crew_take_98 : decode prog_4_method_2_code 98 = .ok (.iload 7, 2) := by decide +kernel
theorem d_Crew_take_100 : decode prog_4_method_2_code 100 = .ok (.invokestatic 44, 3) := by decide +kernel
theorem d_Crew_take_103 : decode prog_4_method_2_code 103 = .ok (.imul, 1) := by decide +kernel
theorem d_Crew_take_104 : decode prog_4_method_2_code 104 = .ok (.iadd, 1) := by decide +kernel
theorem d_Crew_take_105 : decode prog_4_method_2_code 105 = .ok (.iconst 1, 1) := by decide +kernel
theorem d_Crew_take_106 : decode prog_4_method_2_code 106 = .ok (.aload_n 1, 1) := by decide +kernel
theorem d_Crew_take_107 : decode prog_4_method_2_code 107 = .ok (.getfield 47, 3) := by decide +kernel
theorem d_Crew_take_110 : decode prog_4_method_2_code 110 = .ok (.invokestatic 38, 3) := by decide +kernel
theorem d_Crew_take_113 : decode prog_4_method_2_code 113 = .ok (.idiv, 1) := by decide +kernel
theorem d_Crew_take_114 : decode prog_4_method_2_code 114 = .ok (.istore 8, 2) := by decide +kernel
theorem d_Crew_take_116 : decode prog_4_method_2_code 116 = .ok (.aload_n 0, 1) := by decide +kernel
theorem d_Crew_take_117 : decode prog_4_method_2_code 117 = .ok (.getfield 15, 3) := by decide +kernel
theorem d_Crew_take_120 : decode prog_4_method_2_code 120 = .ok (.iload 5, 2) := by decide +kernel
theorem d_Crew_take_122 : decode prog_4_method_2_code 122 = .ok (.bipush (-2), 2) := by decide +kernel
theorem d_Crew_take_124 : decode prog_4_method_2_code 124 = .ok (.iconst 2, 1) := by decide +kernel
theorem d_Crew_take_125 : decode prog_4_method_2_code 125 = .ok (.iload 8, 2) := by decide +kernel
theorem d_Crew_take_127 : decode prog_4_method_2_code 127 = .ok (.invokestatic 50, 3) := by decide +kernel
theorem d_Crew_take_130 : decode prog_4_method_2_code 130 = .ok (.invokestatic 38, 3) := by decide +kernel
theorem d_Crew_take_133 : decode prog_4_method_2_code 133 = .ok (.iastore, 1) := by decide +kernel
theorem d_Crew_take_134 : decode prog_4_method_2_code 134 = .ok (.iinc 5 1, 3) := by decide +kernel
theorem d_Crew_take_137 : decode prog_4_method_2_code 137 = .ok (.goto (-121), 3) := by decide +kernel
theorem d_Crew_take_140 : decode prog_4_method_2_code 140 = .ok (.return_, 1) := by decide +kernel
theorem w_Crew_take_L16 {p : Program} {l : Launch} {e : Env} {s : State} {m : MethodId} {args : Array Value} {below : List Frame} {meth : Method} {c : Code} {K : KT} {A : Nat → Prop} {Q : State → Prop} (C0 : Cx p s m args meth c prog_4_method_2_code "CanoeSides$Crew" 9 K A) (hr : meth.sig.returnType = (Option.none : Option Jvm.ClassFile.FieldType)) {ad : Nat → Nat} (N : Nat) (x3 : Int32) (x4 : Int32) (x5 : Int32) (h : Hp) {x_ : (Int32 × Hp) ⊕ (Hp)} (hE : K_Crew_take_L16 N x3 x4 x5 h = some x_) (hk1 : ∀ z_, x_ = .inl z_ → G p l e rm_Crew_take s m args below meth c K A WCrewR 9 0 0 Q 16 [(0, .ref (ad 20)), (1, .ref (ad 10)), (3, .int x3), (4, .int x4), (5, .int z_.1)] [] ad z_.2) (hk3 : ∀ z_, x_ = .inr z_ → G p l e rm_Crew_take s m args below meth c K A WCrewR 9 0 0 Q 140 [] [] ad z_) : G p l e rm_Crew_take s m args below meth c K A WCrewR 9 0 0 Q 16 [(0, .ref (ad 20)), (1, .ref (ad 10)), (3, .int x3), (4, .int x4), (5, .int x5)] [] ad h := by
  unfold K_Crew_take_L16 at hE
  refine g_iload C0 4 d_Crew_take_16 rfl ?_
  refine g_bipush C0 (v := 16) d_Crew_take_18 (by decide) ?_
  have hB := ite_some hE
  refine g_icmp_ge C0 (tgt := 140) d_Crew_take_20 (by decide) (fun c_ => ?_) (fun c_ => ?_)
  · replace hE := hB.1 c_
    refine g_sub [] (L' := []) rfl ?_
    exact hk3 _ (Option.some.inj hE).symm
  · replace hE := hB.2 c_
    refine g_iload C0 4 d_Crew_take_23 rfl ?_
    refine g_aload_n C0 0 d_Crew_take_25 rfl rfl ?_
    refine g_getr C0 CK_2 1 (by decide) t_219 0 rfl rfl d_Crew_take_26 ?_
    refine g_alen C0 1 rfl rfl (v := 16) (by decide) d_Crew_take_29 ?_
    have hB := ite_some hE
    refine g_icmp_ge C0 (tgt := 140) d_Crew_take_30 (by decide) (fun c_ => ?_) (fun c_ => ?_)
    · replace hE := hB.1 c_
      refine g_sub [] (L' := []) rfl ?_
      exact hk3 _ (Option.some.inj hE).symm
    · replace hE := hB.2 c_
      refine g_iload C0 4 d_Crew_take_33 rfl ?_
      refine g_aload_n C0 0 d_Crew_take_35 rfl rfl ?_
      refine g_getr C0 CK_2 2 (by decide) t_220 0 rfl rfl d_Crew_take_36 ?_
      refine g_alen C0 2 rfl rfl (v := 16) (by decide) d_Crew_take_39 ?_
      have hB := ite_some hE
      refine g_icmp_ge C0 (tgt := 140) d_Crew_take_40 (by decide) (fun c_ => ?_) (fun c_ => ?_)
      · replace hE := hB.1 c_
        refine g_sub [] (L' := []) rfl ?_
        exact hk3 _ (Option.some.inj hE).symm
      · replace hE := hB.2 c_
        refine g_iload C0 4 d_Crew_take_43 rfl ?_
        refine g_iconst C0 (v := 4) d_Crew_take_45 (by decide) ?_
        refine g_idiv C0 d_Crew_take_46 (by decide) ?_
        obtain ⟨v47, e47, hE⟩ := nm_some hE
        refine g_top e47 ?_
        refine g_istore C0 [(6, .int v47), (0, .ref (ad 20)), (1, .ref (ad 10)), (3, .int x3), (4, .int x4), (5, .int x5)] d_Crew_take_47 (by decide) rfl ?_
        refine g_iload C0 5 d_Crew_take_49 rfl ?_
        refine g_iconst C0 (v := 4) d_Crew_take_51 (by decide) ?_
        refine g_irem C0 d_Crew_take_52 (by decide) ?_
        obtain ⟨v53, e53, hE⟩ := nm_some hE
        refine g_top e53 ?_
        refine g_istore C0 [(7, .int v53), (6, .int v47), (0, .ref (ad 20)), (1, .ref (ad 10)), (3, .int x3), (4, .int x4), (5, .int x5)] d_Crew_take_53 (by decide) rfl ?_
        refine g_aload_n C0 2 d_Crew_take_55 rfl rfl ?_
        refine g_getr C0 CK_2 1 (by decide) t_219 0 rfl rfl d_Crew_take_56 ?_
        refine g_iload C0 6 d_Crew_take_59 rfl ?_
        refine g_iload_n C0 4 d_Crew_take_61 rfl rfl ?_
        refine g_iload C0 1 d_Crew_take_62 rfl ?_
        obtain ⟨v64, z64, hE⟩ := bd_some hE
        refine g_calliP C0 nd_CrewR [] rfl (sb_E_CrewR) (runS C0 (m_Crew_turning l K ad h v47 z64) 1 ⟨t_422, t_423, t_89, t_424⟩ cd_Crew_turning (by decide) (sb_E_CrewR) nd_E rfl rfl (Nat.le_of_ble_eq_true rfl) d_Crew_take_64) ?_
        refine g_imul C0 d_Crew_take_67 ?_
        refine g_iconst C0 (v := 2) d_Crew_take_68 (by decide) ?_
        refine g_iload C0 5 d_Crew_take_69 rfl ?_
        refine g_imul C0 d_Crew_take_71 ?_
        refine g_iload C0 0 d_Crew_take_72 rfl ?_
        obtain ⟨v74, z74, hE⟩ := bd_some hE
        refine g_calliP C0 nd_CrewR [] rfl (sb_E_CrewR) (runS C0 (m_Crew_turning l K ad h v53 z74) 1 ⟨t_422, t_423, t_89, t_424⟩ cd_Crew_turning (by decide) (sb_E_CrewR) nd_E rfl rfl (Nat.le_of_ble_eq_true rfl) d_Crew_take_74) ?_
        refine g_imul C0 d_Crew_take_77 ?_
        refine g_iadd C0 d_Crew_take_78 ?_
        refine g_iconst C0 (v := 1) d_Crew_take_79 (by decide) ?_
        refine g_aload_n C0 3 d_Crew_take_80 rfl rfl ?_
        refine g_getiN C0 CK_7 5 (by decide) t_137 6 rfl rfl d_Crew_take_81 ?_
        refine g_max C0 t_425 ⟨Nat.le_of_ble_eq_true rfl, Nat.le_of_ble_eq_true rfl, Nat.zero_le _, Nat.zero_le _⟩ d_Crew_take_84 ?_
        obtain ⟨q87, hE⟩ := dz_some hE
        refine g_idiv C0 d_Crew_take_87 q87 ?_
        obtain ⟨q88, hE⟩ := sA_some hE
        obtain ⟨h88, e88, hE⟩ := nm_some hE
        refine g_iast C0 1 rfl nd_CrewR q88 d_Crew_take_88 ?_
        refine g_heap e88 ?_
        refine g_iload_n C0 4 d_Crew_take_89 rfl rfl ?_
        refine g_iload C0 1 d_Crew_take_90 rfl ?_
        obtain ⟨v92, z92, hE⟩ := bd_some hE
        refine g_calliP C0 nd_CrewR [] rfl (sb_E_CrewR) (runS C0 (m_Crew_pushing l K ad h88 v47 z92) 1 ⟨t_426, t_427, t_89, t_428⟩ cd_Crew_pushing (by decide) (sb_E_CrewR) nd_E rfl rfl (Nat.le_of_ble_eq_true rfl) d_Crew_take_92) ?_
        refine g_imul C0 d_Crew_take_95 ?_
        refine g_iload C0 5 d_Crew_take_96 rfl ?_
        refine g_iload C0 0 d_Crew_take_98 rfl ?_
        obtain ⟨v100, z100, hE⟩ := bd_some hE
        refine g_calliP C0 nd_CrewR [] rfl (sb_E_CrewR) (runS C0 (m_Crew_pushing l K ad h88 v53 z100) 1 ⟨t_426, t_427, t_89, t_428⟩ cd_Crew_pushing (by decide) (sb_E_CrewR) nd_E rfl rfl (Nat.le_of_ble_eq_true rfl) d_Crew_take_100) ?_
        refine g_imul C0 d_Crew_take_103 ?_
        refine g_iadd C0 d_Crew_take_104 ?_
        refine g_iconst C0 (v := 1) d_Crew_take_105 (by decide) ?_
        refine g_aload_n C0 3 d_Crew_take_106 rfl rfl ?_
        refine g_getiN C0 CK_7 6 (by decide) t_141 6 rfl rfl d_Crew_take_107 ?_
        refine g_max C0 t_425 ⟨Nat.le_of_ble_eq_true rfl, Nat.le_of_ble_eq_true rfl, Nat.zero_le _, Nat.zero_le _⟩ d_Crew_take_110 ?_
        obtain ⟨q113, hE⟩ := dz_some hE
        refine g_idiv C0 d_Crew_take_113 q113 ?_
        obtain ⟨v114, e114, hE⟩ := nm_some hE
        refine g_top e114 ?_
        refine g_istore C0 [(8, .int v114), (7, .int v53), (6, .int v47), (0, .ref (ad 20)), (1, .ref (ad 10)), (3, .int x3), (4, .int x4), (5, .int x5)] d_Crew_take_114 (by decide) rfl ?_
        refine g_aload_n C0 3 d_Crew_take_116 rfl rfl ?_
        refine g_getr C0 CK_2 2 (by decide) t_220 0 rfl rfl d_Crew_take_117 ?_
        refine g_iload C0 7 d_Crew_take_120 rfl ?_
        refine g_bipush C0 (v := (-2)) d_Crew_take_122 (by decide) ?_
        refine g_iconst C0 (v := 2) d_Crew_take_124 (by decide) ?_
        refine g_iload C0 0 d_Crew_take_125 rfl ?_
        refine g_min C0 t_429 ⟨Nat.le_of_ble_eq_true rfl, Nat.le_of_ble_eq_true rfl, Nat.zero_le _, Nat.zero_le _⟩ d_Crew_take_127 ?_
        refine g_max C0 t_425 ⟨Nat.le_of_ble_eq_true rfl, Nat.le_of_ble_eq_true rfl, Nat.zero_le _, Nat.zero_le _⟩ d_Crew_take_130 ?_
        obtain ⟨q133, hE⟩ := sA_some hE
        obtain ⟨h133, e133, hE⟩ := nm_some hE
        refine g_iast C0 2 rfl nd_CrewR q133 d_Crew_take_133 ?_
        refine g_heap e133 ?_
        obtain ⟨v134, e134, hE⟩ := nm_some hE
        refine g_iinc C0 7 [(5, .int v134), (8, .int v114), (7, .int v53), (6, .int v47), (0, .ref (ad 20)), (1, .ref (ad 10)), (3, .int x3), (4, .int x4)] d_Crew_take_134 rfl (by rw [e134]; rfl) (by decide) rfl ?_
        refine g_goto C0 (tgt := 16) d_Crew_take_137 (by decide) ?_
        refine g_sub [4, 5, 6, 7, 0] (L' := [(0, .ref (ad 20)), (1, .ref (ad 10)), (3, .int x3), (4, .int x4), (5, .int v134)]) rfl ?_
        exact hk1 _ (Option.some.inj hE).symm
theorem w_Crew_take {p : Program} {l : Launch} {e : Env} {s : State} {m : MethodId} {args : Array Value} {below : List Frame} {meth : Method} {c : Code} {K : KT} {A : Nat → Prop} (C0 : Cx p s m args meth c prog_4_method_2_code "CanoeSides$Crew" 9 K A) (hr : meth.sig.returnType = (Option.none : Option Jvm.ClassFile.FieldType)) {ad : Nat → Nat} (N : Nat) (b0 : Int32) (h : Hp) {res : Hp} (hE : K_Crew_take N b0 h = some res) : G p l e rm_Crew_take s m args below meth c K A WCrewR 9 0 0 (QV s args below K A WCrewR 0 0 ad res) 0 [(0, .ref (ad 20)), (1, .ref (ad 10)), (2, .int b0)] [] ad h := by
  unfold K_Crew_take at hE
  refine g_aload_n C0 1 d_Crew_take_0 rfl rfl ?_
  refine g_getiN C0 CK_7 3 (by decide) t_129 6 rfl rfl d_Crew_take_1 ?_
  refine g_iload_n C0 2 d_Crew_take_4 rfl rfl ?_
  refine g_iadd C0 d_Crew_take_5 ?_
  obtain ⟨v6, e6, hE⟩ := nm_some hE
  refine g_top e6 ?_
  refine g_istore_n C0 [(3, .int v6), (0, .ref (ad 20)), (1, .ref (ad 10)), (2, .int b0)] d_Crew_take_6 rfl (by decide) rfl ?_
  refine g_aload_n C0 2 d_Crew_take_7 rfl rfl ?_
  refine g_getiN C0 CK_7 4 (by decide) t_133 6 rfl rfl d_Crew_take_8 ?_
  obtain ⟨v11, e11, hE⟩ := nm_some hE
  refine g_top e11 ?_
  refine g_istore C0 [(4, .int v11), (3, .int v6), (0, .ref (ad 20)), (1, .ref (ad 10)), (2, .int b0)] d_Crew_take_11 (by decide) rfl ?_
  refine g_iconst C0 (v := 0) d_Crew_take_13 (by decide) ?_
  refine g_istore C0 [(5, .int 0), (4, .int v11), (3, .int v6), (0, .ref (ad 20)), (1, .ref (ad 10)), (2, .int b0)] d_Crew_take_14 (by decide) rfl ?_
  refine g_sub [3, 4, 2, 1, 0] (L' := [(0, .ref (ad 20)), (1, .ref (ad 10)), (3, .int v6), (4, .int v11), (5, .int 0)]) rfl ?_
  obtain ⟨t16, z16, hE⟩ := bd_some hE
  refine loopG (fun z_ : Int32 × Hp => K_Crew_take_L16 N v6 v11 z_.1 z_.2) (fun z_ : Int32 × Hp => G p l e rm_Crew_take s m args below meth c K A WCrewR 9 0 0 _ 16 [(0, .ref (ad 20)), (1, .ref (ad 10)), (3, .int v6), (4, .int v11), (5, .int z_.1)] [] ad z_.2) (fun z_ : Hp => G p l e rm_Crew_take s m args below meth c K A WCrewR 9 0 0 _ 140 [] [] ad z_) (fun z_ x_ hz k1 k2 => w_Crew_take_L16 C0 hr N v6 v11 z_.1 z_.2 hz k1 k2) _ _ _ z16 ?_
  try dsimp only
  obtain rfl := Option.some.inj hE
  exact g_vret C0 hr d_Crew_take_140
theorem m_Crew_take (l : Launch) (K : KT) (ad : Nat → Nat) (h : Hp) (N : Nat) (b0 : Int32) {res : Hp} (hE : K_Crew_take N b0 h = some res) : ConV l y_Crew_take prog_4_method_2_code 9 (Option.none : Option Jvm.ClassFile.FieldType) rm_Crew_take K WCrewR ad h [.ref (ad 20), .ref (ad 10), .int b0] res := fun sz =>
  con_start [(0, .ref (ad 20)), (1, .ref (ad 10)), (2, .int b0)] (by decide +kernel) rfl (Nat.le_of_ble_eq_true rfl) (fun p e s m args below meth c C0 hr hnm hsz => w_Crew_take C0 hr N b0 h hE)
abbrev y_Crew_calm : MethodName := ⟨"CanoeSides$Crew", "calm", "(II)I"⟩
abbrev rm_Crew_calm : Room := { frames := 1, cells := 0, slots := 0, locals := 26 }
theorem cd_Crew_calm : cwd y_Crew_calm 2 := by decide +kernel
theorem d_Crew_calm_0 : decode prog_4_method_7_code 0 = .ok (.aload_n 0, 1) := by decide +kernel
theorem d_Crew_calm_1 : decode prog_4_method_7_code 1 = .ok (.getfield 18, 3) := by decide +kernel
theorem d_Crew_calm_4 : decode prog_4_method_7_code 4 = .ok (.iload_n 1, 1) := by decide +kernel
theorem d_Crew_calm_5 : decode prog_4_method_7_code 5 = .ok (.aload_n 0, 1) := by decide +kernel
theorem d_Crew_calm_6 : decode prog_4_method_7_code 6 = .ok (.iload_n 2, 1) := by decide +kernel
theorem d_Crew_calm_7 : decode prog_4_method_7_code 7 = .ok (.invokevirtual 53, 3) := by decide +kernel
theorem d_Crew_calm_10 : decode prog_4_method_7_code 10 = .ok (.aload_n 0, 1) := by decide +kernel
theorem d_Crew_calm_11 : decode prog_4_method_7_code 11 = .ok (.iload_n 2, 1) := by decide +kernel
theorem d_Crew_calm_12 : decode prog_4_method_7_code 12 = .ok (.invokevirtual 56, 3) := by decide +kernel
theorem d_Crew_calm_15 : decode prog_4_method_7_code 15 = .ok (.invokevirtual 59, 3) := by decide +kernel
theorem d_Crew_calm_18 : decode prog_4_method_7_code 18 = .ok (.ireturn, 1) := by decide +kernel
theorem w_Crew_calm {p : Program} {l : Launch} {e : Env} {s : State} {m : MethodId} {args : Array Value} {below : List Frame} {meth : Method} {c : Code} {K : KT} {A : Nat → Prop} (C0 : Cx p s m args meth c prog_4_method_7_code "CanoeSides$Crew" 3 K A) (hr : meth.sig.returnType = (Option.some Jvm.ClassFile.FieldType.int)) {ad : Nat → Nat} (a0 : Int32) (b0 : Int32) (h : Hp) {res : Int32} (hE : K_Crew_calm a0 b0 h = some res) : G p l e rm_Crew_calm s m args below meth c K A WCrew 3 0 0 (QI s args below K A WCrew 0 0 ad res h) 0 [(0, .ref (ad 20)), (1, .int a0), (2, .int b0)] [] ad h := by
  unfold K_Crew_calm at hE
  refine g_aload_n C0 0 d_Crew_calm_0 rfl rfl ?_
  refine g_getr C0 CK_2 0 (by decide) t_216 0 rfl rfl d_Crew_calm_1 ?_
  refine g_iload_n C0 1 d_Crew_calm_4 rfl rfl ?_
  refine g_aload_n C0 0 d_Crew_calm_5 rfl rfl ?_
  refine g_iload_n C0 2 d_Crew_calm_6 rfl rfl ?_
  obtain ⟨v7, z7, hE⟩ := bd_some hE
  refine g_calliP C0 nd_Crew [20, 21, 22, 15, 16, 17] rfl (sbW_self WCrew) (runV C0 (m_Crew_turnOf l K ad h b0 z7) 1 rfl ⟨t_776, t_777, t_778, t_89, t_779⟩ cd_Crew_turnOf (by decide) 0 rfl rfl (sbW_self WCrew) nd_Crew rfl rfl (Nat.le_of_ble_eq_true rfl) d_Crew_calm_7) ?_
  refine g_aload_n C0 0 d_Crew_calm_10 rfl rfl ?_
  refine g_iload_n C0 2 d_Crew_calm_11 rfl rfl ?_
  obtain ⟨v12, z12, hE⟩ := bd_some hE
  refine g_calliP C0 nd_Crew [20, 21, 22, 15, 16, 17] rfl (sbW_self WCrew) (runV C0 (m_Crew_pushOf l K ad h b0 z12) 1 rfl ⟨t_780, t_781, t_782, t_89, t_783⟩ cd_Crew_pushOf (by decide) 0 rfl rfl (sbW_self WCrew) nd_Crew rfl rfl (Nat.le_of_ble_eq_true rfl) d_Crew_calm_12) ?_
  obtain ⟨v15, z15, hE⟩ := bd_some hE
  refine g_calliP C0 nd_Crew [15, 16, 17] rfl (sb_Waters_Crew) (runV C0 (m_Waters_calm l K ad h a0 v7 v12 z15) 3 rfl ⟨t_966, t_789, t_790, t_88, t_791⟩ cd_Waters_calm (by decide) 3 rfl rfl (sb_Waters_Crew) nd_Waters rfl rfl (Nat.le_of_ble_eq_true rfl) d_Crew_calm_15) ?_
  obtain rfl := Option.some.inj hE
  exact g_iret C0 hr d_Crew_calm_18
theorem m_Crew_calm (l : Launch) (K : KT) (ad : Nat → Nat) (h : Hp) (a0 : Int32) (b0 : Int32) {res : Int32} (hE : K_Crew_calm a0 b0 h = some res) : ConI l y_Crew_calm prog_4_method_7_code 3 (Option.some Jvm.ClassFile.FieldType.int) rm_Crew_calm K WCrew ad h [.ref (ad 20), .int a0, .int b0] res h := fun sz =>
  con_start [(0, .ref (ad 20)), (1, .int a0), (2, .int b0)] (by decide +kernel) rfl (Nat.le_of_ble_eq_true rfl) (fun p e s m args below meth c C0 hr hnm hsz => w_Crew_calm C0 hr a0 b0 h hE)
abbrev y_Gusts_forget : MethodName := ⟨"CanoeSides$Gusts", "forget", "()V"⟩
abbrev rm_Gusts_forget : Room := { frames := 0, cells := 0, slots := 0, locals := 0 }
theorem cd_Gusts_forget : cwd y_Gusts_forget 0 := by decide +kernel
theorem d_Gusts_forget_0 : decode prog_5_method_2_code 0 = .ok (.aload_n 0, 1) := by decide +kernel
theorem d_Gusts_forget_1 : decode prog_5_method_2_code 1 = .ok (.iconst (-1), 1) := by decide +kernel
theorem d_Gusts_forget_2 : decode prog_5_method_2_code 2 = .ok (.putfield 22, 3) := by decide +kernel
theorem d_Gusts_forget_5 : decode prog_5_method_2_code 5 = .ok (.return_, 1) := by decide +kernel
theorem w_Gusts_forget {p : Program} {l : Launch} {e : Env} {s : State} {m : MethodId} {args : Array Value} {below : List Frame} {meth : Method} {c : Code} {K : KT} {A : Nat → Prop} (C0 : Cx p s m args meth c prog_5_method_2_code "CanoeSides$Gusts" 1 K A) (hr : meth.sig.returnType = (Option.none : Option Jvm.ClassFile.FieldType)) {ad : Nat → Nat} (h : Hp) {res : Hp} (hE : K_Gusts_forget h = some res) : G p l e rm_Gusts_forget s m args below meth c K A WGusts 1 0 0 (QV s args below K A WGusts 0 0 ad res) 0 [(0, .ref (ad 55))] [] ad h := by
  unfold K_Gusts_forget at hE
  refine g_aload_n C0 0 d_Gusts_forget_0 rfl rfl ?_
  refine g_iconst C0 (v := (-1)) d_Gusts_forget_1 (by decide) ?_
  obtain ⟨h2, e2, hE⟩ := nm_some hE
  refine g_puti C0 CK_3 CT_3 3 (by decide) t_368 rfl (by decide +kernel) nd_Gusts 0 rfl rfl d_Gusts_forget_2 ?_
  refine g_heap e2 ?_
  obtain rfl := Option.some.inj hE
  exact g_vret C0 hr d_Gusts_forget_5
theorem m_Gusts_forget (l : Launch) (K : KT) (ad : Nat → Nat) (h : Hp) {res : Hp} (hE : K_Gusts_forget h = some res) : ConV l y_Gusts_forget prog_5_method_2_code 1 (Option.none : Option Jvm.ClassFile.FieldType) rm_Gusts_forget K WGusts ad h [.ref (ad 55)] res := fun sz =>
  con_start [(0, .ref (ad 55))] (by decide +kernel) rfl (Nat.le_of_ble_eq_true rfl) (fun p e s m args below meth c C0 hr hnm hsz => w_Gusts_forget C0 hr h hE)
abbrev y_River_kindOf : MethodName := ⟨"CanoeSides$River", "kindOf", "(I)I"⟩
abbrev rm_River_kindOf : Room := { frames := 0, cells := 0, slots := 0, locals := 0 }
theorem cd_River_kindOf : cwd y_River_kindOf 1 := by decide +kernel
theorem d_River_kindOf_0 : decode prog_9_method_3_code 0 = .ok (.iload_n 1, 1) := by decide +kernel
theorem d_River_kindOf_1 : decode prog_9_method_3_code 1 = .ok (.ifCond .lt 21, 3) := by decide +kernel
theorem d_River_kindOf_4 : decode prog_9_method_3_code 4 = .ok (.iload_n 1, 1) := by decide +kernel
theorem d_River_kindOf_5 : decode prog_9_method_3_code 5 = .ok (.aload_n 0, 1) := by decide +kernel
theorem d_River_kindOf_6 : decode prog_9_method_3_code 6 = .ok (.getfield 18, 3) := by decide +kernel
theorem d_River_kindOf_9 : decode prog_9_method_3_code 9 = .ok (.arraylength, 1) := by decide +kernel
theorem d_River_kindOf_10 : decode prog_9_method_3_code 10 = .ok (.if_icmp .ge 12, 3) := by decide +kernel
theorem d_River_kindOf_13 : decode prog_9_method_3_code 13 = .ok (.aload_n 0, 1) := by decide +kernel
theorem d_River_kindOf_14 : decode prog_9_method_3_code 14 = .ok (.getfield 18, 3) := by decide +kernel
theorem d_River_kindOf_17 : decode prog_9_method_3_code 17 = .ok (.iload_n 1, 1) := by decide +kernel
theorem d_River_kindOf_18 : decode prog_9_method_3_code 18 = .ok (.iaload, 1) := by decide +kernel
theorem d_River_kindOf_19 : decode prog_9_method_3_code 19 = .ok (.goto 4, 3) := by decide +kernel
theorem d_River_kindOf_22 : decode prog_9_method_3_code 22 = .ok (.iconst 1, 1) := by decide +kernel
theorem d_River_kindOf_23 : decode prog_9_method_3_code 23 = .ok (.ireturn, 1) := by decide +kernel
theorem w_River_kindOf {p : Program} {l : Launch} {e : Env} {s : State} {m : MethodId} {args : Array Value} {below : List Frame} {meth : Method} {c : Code} {K : KT} {A : Nat → Prop} (C0 : Cx p s m args meth c prog_9_method_3_code "CanoeSides$River" 2 K A) (hr : meth.sig.returnType = (Option.some Jvm.ClassFile.FieldType.int)) {ad : Nat → Nat} (a0 : Int32) (h : Hp) {res : Int32} (hE : K_River_kindOf a0 h = some res) : G p l e rm_River_kindOf s m args below meth c K A WRiver 2 0 0 (QI s args below K A WRiver 0 0 ad res h) 0 [(0, .ref (ad 10)), (1, .int a0)] [] ad h := by
  unfold K_River_kindOf at hE
  refine g_iload_n C0 1 d_River_kindOf_0 rfl rfl ?_
  have hB := ite_some hE
  refine g_if_lt C0 (tgt := 22) d_River_kindOf_1 (by decide) (fun c_ => ?_) (fun c_ => ?_)
  · replace hE := hB.1 c_
    refine g_iconst C0 (v := 1) d_River_kindOf_22 (by decide) ?_
    obtain rfl := Option.some.inj hE
    exact g_iret C0 hr d_River_kindOf_23
  · replace hE := hB.2 c_
    refine g_iload_n C0 1 d_River_kindOf_4 rfl rfl ?_
    refine g_aload_n C0 0 d_River_kindOf_5 rfl rfl ?_
    refine g_getr C0 CK_7 2 (by decide) t_127 0 rfl rfl d_River_kindOf_6 ?_
    refine g_alen C0 1 rfl rfl (v := 48) (by decide) d_River_kindOf_9 ?_
    have hB := ite_some hE
    refine g_icmp_ge C0 (tgt := 22) d_River_kindOf_10 (by decide) (fun c_ => ?_) (fun c_ => ?_)
    · replace hE := hB.1 c_
      refine g_iconst C0 (v := 1) d_River_kindOf_22 (by decide) ?_
      obtain rfl := Option.some.inj hE
      exact g_iret C0 hr d_River_kindOf_23
    · replace hE := hB.2 c_
      refine g_aload_n C0 0 d_River_kindOf_13 rfl rfl ?_
      refine g_getr C0 CK_7 2 (by decide) t_127 0 rfl rfl d_River_kindOf_14 ?_
      refine g_iload_n C0 1 d_River_kindOf_17 rfl rfl ?_
      obtain ⟨q18, v18, e18, hE⟩ := gA_some hE
      refine g_iald C0 1 rfl q18 d_River_kindOf_18 ?_
      refine g_top e18 ?_
      refine g_goto C0 (tgt := 23) d_River_kindOf_19 (by decide) ?_
      obtain rfl := Option.some.inj hE
      exact g_iret C0 hr d_River_kindOf_23
theorem m_River_kindOf (l : Launch) (K : KT) (ad : Nat → Nat) (h : Hp) (a0 : Int32) {res : Int32} (hE : K_River_kindOf a0 h = some res) : ConI l y_River_kindOf prog_9_method_3_code 2 (Option.some Jvm.ClassFile.FieldType.int) rm_River_kindOf K WRiver ad h [.ref (ad 10), .int a0] res h := fun sz =>
  con_start [(0, .ref (ad 10)), (1, .int a0)] (by decide +kernel) rfl (Nat.le_of_ble_eq_true rfl) (fun p e s m args below meth c C0 hr hnm hsz => w_River_kindOf C0 hr a0 h hE)
abbrev y_Gusts_worstOf : MethodName := ⟨"CanoeSides$Gusts", "worstOf", "(I)I"⟩
abbrev rm_Gusts_worstOf : Room := { frames := 0, cells := 0, slots := 0, locals := 0 }
theorem cd_Gusts_worstOf : cwd y_Gusts_worstOf 1 := by decide +kernel
theorem d_Gusts_worstOf_0 : decode prog_5_method_6_code 0 = .ok (.iload_n 1, 1) := by decide +kernel
theorem d_Gusts_worstOf_1 : decode prog_5_method_6_code 1 = .ok (.ifCond .lt 21, 3) := by decide +kernel
theorem d_Gusts_worstOf_4 : decode prog_5_method_6_code 4 = .ok (.iload_n 1, 1) := by decide +kernel
theorem d_Gusts_worstOf_5 : decode prog_5_method_6_code 5 = .ok (.aload_n 0, 1) := by decide +kernel
theorem d_Gusts_worstOf_6 : decode prog_5_method_6_code 6 = .ok (.getfield 9, 3) := by decide +kernel
theorem d_Gusts_worstOf_9 : decode prog_5_method_6_code 9 = .ok (.arraylength, 1) := by decide +kernel
theorem d_Gusts_worstOf_10 : decode prog_5_method_6_code 10 = .ok (.if_icmp .ge 12, 3) := by decide +kernel
theorem d_Gusts_worstOf_13 : decode prog_5_method_6_code 13 = .ok (.aload_n 0, 1) := by decide +kernel
theorem d_Gusts_worstOf_14 : decode prog_5_method_6_code 14 = .ok (.getfield 9, 3) := by decide +kernel
theorem d_Gusts_worstOf_17 : decode prog_5_method_6_code 17 = .ok (.iload_n 1, 1) := by decide +kernel
theorem d_Gusts_worstOf_18 : decode prog_5_method_6_code 18 = .ok (.iaload, 1) := by decide +kernel
theorem d_Gusts_worstOf_19 : decode prog_5_method_6_code 19 = .ok (.goto 5, 3) := by decide +kernel
theorem d_Gusts_worstOf_22 : decode prog_5_method_6_code 22 = .ok (.bipush 99, 2) := by decide +kernel
theorem d_Gusts_worstOf_24 : decode prog_5_method_6_code 24 = .ok (.ireturn, 1) := by decide +kernel
theorem w_Gusts_worstOf {p : Program} {l : Launch} {e : Env} {s : State} {m : MethodId} {args : Array Value} {below : List Frame} {meth : Method} {c : Code} {K : KT} {A : Nat → Prop} (C0 : Cx p s m args meth c prog_5_method_6_code "CanoeSides$Gusts" 2 K A) (hr : meth.sig.returnType = (Option.some Jvm.ClassFile.FieldType.int)) {ad : Nat → Nat} (a0 : Int32) (h : Hp) {res : Int32} (hE : K_Gusts_worstOf a0 h = some res) : G p l e rm_Gusts_worstOf s m args below meth c K A WGusts 2 0 0 (QI s args below K A WGusts 0 0 ad res h) 0 [(0, .ref (ad 55)), (1, .int a0)] [] ad h := by
  unfold K_Gusts_worstOf at hE
  refine g_iload_n C0 1 d_Gusts_worstOf_0 rfl rfl ?_
  have hB := ite_some hE
  refine g_if_lt C0 (tgt := 22) d_Gusts_worstOf_1 (by decide) (fun c_ => ?_) (fun c_ => ?_)
  · replace hE := hB.1 c_
    refine g_bipush C0 (v := 99) d_Gusts_worstOf_22 (by decide) ?_
    obtain rfl := Option.some.inj hE
    exact g_iret C0 hr d_Gusts_worstOf_24
  · replace hE := hB.2 c_
    refine g_iload_n C0 1 d_Gusts_worstOf_4 rfl rfl ?_
    refine g_aload_n C0 0 d_Gusts_worstOf_5 rfl rfl ?_
    refine g_getr C0 CK_3 0 (by decide) t_363 0 rfl rfl d_Gusts_worstOf_6 ?_
    refine g_alen C0 1 rfl rfl (v := 384) (by decide) d_Gusts_worstOf_9 ?_
    have hB := ite_some hE
    refine g_icmp_ge C0 (tgt := 22) d_Gusts_worstOf_10 (by decide) (fun c_ => ?_) (fun c_ => ?_)
    · replace hE := hB.1 c_
      refine g_bipush C0 (v := 99) d_Gusts_worstOf_22 (by decide) ?_
      obtain rfl := Option.some.inj hE
      exact g_iret C0 hr d_Gusts_worstOf_24
    · replace hE := hB.2 c_
      refine g_aload_n C0 0 d_Gusts_worstOf_13 rfl rfl ?_
      refine g_getr C0 CK_3 0 (by decide) t_363 0 rfl rfl d_Gusts_worstOf_14 ?_
      refine g_iload_n C0 1 d_Gusts_worstOf_17 rfl rfl ?_
      obtain ⟨q18, v18, e18, hE⟩ := gA_some hE
      refine g_iald C0 1 rfl q18 d_Gusts_worstOf_18 ?_
      refine g_top e18 ?_
      refine g_goto C0 (tgt := 24) d_Gusts_worstOf_19 (by decide) ?_
      obtain rfl := Option.some.inj hE
      exact g_iret C0 hr d_Gusts_worstOf_24
theorem m_Gusts_worstOf (l : Launch) (K : KT) (ad : Nat → Nat) (h : Hp) (a0 : Int32) {res : Int32} (hE : K_Gusts_worstOf a0 h = some res) : ConI l y_Gusts_worstOf prog_5_method_6_code 2 (Option.some Jvm.ClassFile.FieldType.int) rm_Gusts_worstOf K WGusts ad h [.ref (ad 55), .int a0] res h := fun sz =>
  con_start [(0, .ref (ad 55)), (1, .int a0)] (by decide +kernel) rfl (Nat.le_of_ble_eq_true rfl) (fun p e s m args below meth c C0 hr hnm hsz => w_Gusts_worstOf C0 hr a0 h hE)
abbrev y_Gusts_surePair : MethodName := ⟨"CanoeSides$Gusts", "surePair", "(LCanoeSides$Crew;II)I"⟩
abbrev rm_Gusts_surePair : Room := { frames := 2, cells := 0, slots := 0, locals := 48 }
theorem cd_Gusts_surePair : cwd y_Gusts_surePair 3 := by decide +kernel
theorem d_Gusts_surePair_0 : decode prog_5_method_5_code 0 = .ok (.iconst 0, 1) := by decide +kernel
theorem d_Gusts_surePair_1 : decode prog_5_method_5_code 1 = .ok (.istore 4, 2) := by decide +kernel
theorem d_Gusts_surePair_3 : decode prog_5_method_5_code 3 = .ok (.iload 4, 2) := by decide +kernel
theorem d_Gusts_surePair_5 : decode prog_5_method_5_code 5 = .ok (.bipush 16, 2) := by decide +kernel
theorem d_Gusts_surePair_7 : decode prog_5_method_5_code 7 = .ok (.if_icmp .ge 48, 3) := by decide +kernel
theorem d_Gusts_surePair_10 : decode prog_5_method_5_code 10 = .ok (.aload_n 1, 1) := by decide +kernel
theorem d_Gusts_surePair_11 : decode prog_5_method_5_code 11 = .ok (.iload_n 2, 1) := by decide +kernel
theorem d_Gusts_surePair_12 : decode prog_5_method_5_code 12 = .ok (.iload 4, 2) := by decide +kernel
theorem d_Gusts_surePair_14 : decode prog_5_method_5_code 14 = .ok (.invokevirtual 49, 3) := by decide +kernel
theorem d_Gusts_surePair_17 : decode prog_5_method_5_code 17 = .ok (.istore 5, 2) := by decide +kernel
theorem d_Gusts_surePair_19 : decode prog_5_method_5_code 19 = .ok (.aload_n 0, 1) := by decide +kernel
theorem d_Gusts_surePair_20 : decode prog_5_method_5_code 20 = .ok (.iload 5, 2) := by decide +kernel
theorem d_Gusts_surePair_22 : decode prog_5_method_5_code 22 = .ok (.invokevirtual 55, 3) := by decide +kernel
theorem d_Gusts_surePair_25 : decode prog_5_method_5_code 25 = .ok (.iload_n 3, 1) := by decide +kernel
theorem d_Gusts_surePair_26 : decode prog_5_method_5_code 26 = .ok (.if_icmp .ge 23, 3) := by decide +kernel
theorem d_Gusts_surePair_29 : decode prog_5_method_5_code 29 = .ok (.aload_n 0, 1) := by decide +kernel
theorem d_Gusts_surePair_30 : decode prog_5_method_5_code 30 = .ok (.aload_n 1, 1) := by decide +kernel
theorem d_Gusts_surePair_31 : decode prog_5_method_5_code 31 = .ok (.getfield 58, 3) := by decide +kernel
theorem d_Gusts_surePair_34 : decode prog_5_method_5_code 34 = .ok (.iload 5, 2) := by decide +kernel
theorem d_Gusts_surePair_36 : decode prog_5_method_5_code 36 = .ok (.invokevirtual 62, 3) := by decide +kernel
theorem d_Gusts_surePair_39 : decode prog_5_method_5_code 39 = .ok (.invokevirtual 55, 3) := by decide +kernel
theorem d_Gusts_surePair_42 : decode prog_5_method_5_code 42 = .ok (.iload_n 3, 1) := by decide +kernel
theorem d_Gusts_surePair_43 : decode prog_5_method_5_code 43 = .ok (.if_icmp .ge 6, 3) := by decide +kernel
theorem d_Gusts_surePair_46 : decode prog_5_method_5_code 46 = .ok (.iload 4, 2) := by decide +kernel
theorem d_Gusts_surePair_48 : decode prog_5_method_5_code 48 = .ok (.ireturn, 1) := by decide +kernel
theorem d_Gusts_surePair_49 : decode prog_5_method_5_code 49 = .ok (.iinc 4 1, 3) := by decide +kernel
theorem d_Gusts_surePair_52 : decode prog_5_method_5_code 52 = .ok (.goto (-49), 3) := by decide +kernel
theorem d_Gusts_surePair_55 : decode prog_5_method_5_code 55 = .ok (.iconst (-1), 1) := by decide +kernel
theorem d_Gusts_surePair_56 : decode prog_5_method_5_code 56 = .ok (.ireturn, 1) := by decide +kernel
theorem w_Gusts_surePair_L3 {p : Program} {l : Launch} {e : Env} {s : State} {m : MethodId} {args : Array Value} {below : List Frame} {meth : Method} {c : Code} {K : KT} {A : Nat → Prop} {Q : State → Prop} (C0 : Cx p s m args meth c prog_5_method_5_code "CanoeSides$Gusts" 6 K A) (hr : meth.sig.returnType = (Option.some Jvm.ClassFile.FieldType.int)) {ad : Nat → Nat} (N : Nat) (x2 : Int32) (x3 : Int32) (x4 : Int32) (h : Hp) {x_ : (Int32) ⊕ (Int32) ⊕ (Unit)} (hE : K_Gusts_surePair_L3 N x2 x3 x4 h = some x_) (hk1 : ∀ z_, x_ = .inl z_ → G p l e rm_Gusts_surePair s m args below meth c K A WGusts 6 0 0 Q 3 [(0, .ref (ad 55)), (1, .ref (ad 20)), (2, .int x2), (3, .int x3), (4, .int z_)] [] ad h) (hk2 : ∀ r_, x_ = .inr (.inl r_) → Q = (QI s args below K A WGusts 0 0 ad r_ h)) (hk3 : ∀ z_, x_ = .inr (.inr z_) → G p l e rm_Gusts_surePair s m args below meth c K A WGusts 6 0 0 Q 55 [] [] ad h) : G p l e rm_Gusts_surePair s m args below meth c K A WGusts 6 0 0 Q 3 [(0, .ref (ad 55)), (1, .ref (ad 20)), (2, .int x2), (3, .int x3), (4, .int x4)] [] ad h := by
  unfold K_Gusts_surePair_L3 at hE
  refine g_iload C0 4 d_Gusts_surePair_3 rfl ?_
  refine g_bipush C0 (v := 16) d_Gusts_surePair_5 (by decide) ?_
  have hB := ite_some hE
  refine g_icmp_ge C0 (tgt := 55) d_Gusts_surePair_7 (by decide) (fun c_ => ?_) (fun c_ => ?_)
  · replace hE := hB.1 c_
    refine g_sub [] (L' := []) rfl ?_
    exact hk3 _ (Option.some.inj hE).symm
  · replace hE := hB.2 c_
    refine g_aload_n C0 1 d_Gusts_surePair_10 rfl rfl ?_
    refine g_iload_n C0 2 d_Gusts_surePair_11 rfl rfl ?_
    refine g_iload C0 4 d_Gusts_surePair_12 rfl ?_
    obtain ⟨v14, z14, hE⟩ := bd_some hE
    refine g_calliP C0 nd_Gusts [20, 21, 22, 15, 16, 17] rfl (sb_Crew_Gusts) (runV C0 (m_Crew_calm l K ad h x2 x4 z14) 2 rfl ⟨t_962, t_963, t_964, t_89, t_965⟩ cd_Crew_calm (by decide) 5 rfl rfl (sb_Crew_Gusts) nd_Crew rfl rfl (Nat.le_of_ble_eq_true rfl) d_Gusts_surePair_14) ?_
    refine g_istore C0 [(5, .int v14), (0, .ref (ad 55)), (1, .ref (ad 20)), (2, .int x2), (3, .int x3), (4, .int x4)] d_Gusts_surePair_17 (by decide) rfl ?_
    refine g_aload_n C0 1 d_Gusts_surePair_19 rfl rfl ?_
    refine g_iload C0 0 d_Gusts_surePair_20 rfl ?_
    obtain ⟨v22, z22, hE⟩ := bd_some hE
    refine g_calliP C0 nd_Gusts [55, 56, 10, 11, 12, 20, 21, 22, 15, 16, 17] rfl (sbW_self WGusts) (runV C0 (m_Gusts_worstOf l K ad h v14 z22) 1 rfl ⟨t_967, t_969, t_36, t_95, t_970⟩ cd_Gusts_worstOf (by decide) 0 rfl rfl (sbW_self WGusts) nd_Gusts rfl rfl (Nat.le_of_ble_eq_true rfl) d_Gusts_surePair_22) ?_
    refine g_iload_n C0 4 d_Gusts_surePair_25 rfl rfl ?_
    have hB := ite_some hE
    refine g_icmp_ge C0 (tgt := 49) d_Gusts_surePair_26 (by decide) (fun c_ => ?_) (fun c_ => ?_)
    · replace hE := hB.1 c_
      obtain ⟨v49, e49, hE⟩ := nm_some hE
      refine g_iinc C0 5 [(4, .int v49), (5, .int v14), (0, .ref (ad 55)), (1, .ref (ad 20)), (2, .int x2), (3, .int x3)] d_Gusts_surePair_49 rfl (by rw [e49]; rfl) (by decide) rfl ?_
      refine g_goto C0 (tgt := 3) d_Gusts_surePair_52 (by decide) ?_
      refine g_sub [2, 3, 4, 5, 0] (L' := [(0, .ref (ad 55)), (1, .ref (ad 20)), (2, .int x2), (3, .int x3), (4, .int v49)]) rfl ?_
      exact hk1 _ (Option.some.inj hE).symm
    · replace hE := hB.2 c_
      refine g_aload_n C0 1 d_Gusts_surePair_29 rfl rfl ?_
      refine g_aload_n C0 2 d_Gusts_surePair_30 rfl rfl ?_
      refine g_getrN C0 CK_2 0 (by decide) t_217 5 rfl rfl d_Gusts_surePair_31 ?_
      refine g_iload C0 0 d_Gusts_surePair_34 rfl ?_
      obtain ⟨v36, z36, hE⟩ := bd_some hE
      refine g_calliP C0 nd_Gusts [15, 16, 17] rfl (sb_Waters_Gusts) (runV C0 (m_Waters_gust l K ad h v14 z36) 1 rfl ⟨t_971, t_793, t_794, t_88, t_795⟩ cd_Waters_gust (by decide) 8 rfl rfl (sb_Waters_Gusts) nd_Waters rfl rfl (Nat.le_of_ble_eq_true rfl) d_Gusts_surePair_36) ?_
      obtain ⟨v39, z39, hE⟩ := bd_some hE
      refine g_calliP C0 nd_Gusts [55, 56, 10, 11, 12, 20, 21, 22, 15, 16, 17] rfl (sbW_self WGusts) (runV C0 (m_Gusts_worstOf l K ad h v36 z39) 1 rfl ⟨t_967, t_969, t_36, t_95, t_970⟩ cd_Gusts_worstOf (by decide) 0 rfl rfl (sbW_self WGusts) nd_Gusts rfl rfl (Nat.le_of_ble_eq_true rfl) d_Gusts_surePair_39) ?_
      refine g_iload_n C0 4 d_Gusts_surePair_42 rfl rfl ?_
      have hB := ite_some hE
      refine g_icmp_ge C0 (tgt := 49) d_Gusts_surePair_43 (by decide) (fun c_ => ?_) (fun c_ => ?_)
      · replace hE := hB.1 c_
        obtain ⟨v49, e49, hE⟩ := nm_some hE
        refine g_iinc C0 5 [(4, .int v49), (5, .int v14), (0, .ref (ad 55)), (1, .ref (ad 20)), (2, .int x2), (3, .int x3)] d_Gusts_surePair_49 rfl (by rw [e49]; rfl) (by decide) rfl ?_
        refine g_goto C0 (tgt := 3) d_Gusts_surePair_52 (by decide) ?_
        refine g_sub [2, 3, 4, 5, 0] (L' := [(0, .ref (ad 55)), (1, .ref (ad 20)), (2, .int x2), (3, .int x3), (4, .int v49)]) rfl ?_
        exact hk1 _ (Option.some.inj hE).symm
      · replace hE := hB.2 c_
        refine g_iload C0 5 d_Gusts_surePair_46 rfl ?_
        have hq := hk2 _ (Option.some.inj hE).symm
        rw [hq]
        exact g_iret C0 hr d_Gusts_surePair_48
theorem w_Gusts_surePair {p : Program} {l : Launch} {e : Env} {s : State} {m : MethodId} {args : Array Value} {below : List Frame} {meth : Method} {c : Code} {K : KT} {A : Nat → Prop} (C0 : Cx p s m args meth c prog_5_method_5_code "CanoeSides$Gusts" 6 K A) (hr : meth.sig.returnType = (Option.some Jvm.ClassFile.FieldType.int)) {ad : Nat → Nat} (N : Nat) (b0 : Int32) (c0 : Int32) (h : Hp) {res : Int32} (hE : K_Gusts_surePair N b0 c0 h = some res) : G p l e rm_Gusts_surePair s m args below meth c K A WGusts 6 0 0 (QI s args below K A WGusts 0 0 ad res h) 0 [(0, .ref (ad 55)), (1, .ref (ad 20)), (2, .int b0), (3, .int c0)] [] ad h := by
  unfold K_Gusts_surePair at hE
  refine g_iconst C0 (v := 0) d_Gusts_surePair_0 (by decide) ?_
  refine g_istore C0 [(4, .int 0), (0, .ref (ad 55)), (1, .ref (ad 20)), (2, .int b0), (3, .int c0)] d_Gusts_surePair_1 (by decide) rfl ?_
  refine g_sub [1, 2, 3, 4, 0] (L' := [(0, .ref (ad 55)), (1, .ref (ad 20)), (2, .int b0), (3, .int c0), (4, .int 0)]) rfl ?_
  obtain ⟨t3, z3, hE⟩ := bd_some hE
  refine loopG (fun z_ : Int32 => K_Gusts_surePair_L3 N b0 c0 z_ h) (fun z_ : Int32 => G p l e rm_Gusts_surePair s m args below meth c K A WGusts 6 0 0 _ 3 [(0, .ref (ad 55)), (1, .ref (ad 20)), (2, .int b0), (3, .int c0), (4, .int z_)] [] ad h) (fun z_ : (Int32) ⊕ (Unit) => (∀ r_, z_ = .inl r_ → _ = (QI s args below K A WGusts 0 0 ad r_ h)) ∧ (∀ y_, z_ = .inr y_ → G p l e rm_Gusts_surePair s m args below meth c K A WGusts 6 0 0 _ 55 [] [] ad h)) (fun z_ x_ hz k1 k2 => w_Gusts_surePair_L3 C0 hr N b0 c0 z_ h hz k1 (fun r_ hr_ => (k2 _ hr_).1 _ rfl) (fun y_ hy_ => (k2 _ hy_).2 _ rfl)) _ _ _ z3 ?_
  refine ⟨fun r_ e_ => ?_, fun t3x e_ => ?_⟩
  · subst e_
    replace hE := el_inl hE
    exact Option.some.inj hE ▸ rfl
  · subst e_
    replace hE := el_inr hE
    try dsimp only
    refine g_iconst C0 (v := (-1)) d_Gusts_surePair_55 (by decide) ?_
    obtain rfl := Option.some.inj hE
    exact g_iret C0 hr d_Gusts_surePair_56
theorem m_Gusts_surePair (l : Launch) (K : KT) (ad : Nat → Nat) (h : Hp) (N : Nat) (b0 : Int32) (c0 : Int32) {res : Int32} (hE : K_Gusts_surePair N b0 c0 h = some res) : ConI l y_Gusts_surePair prog_5_method_5_code 6 (Option.some Jvm.ClassFile.FieldType.int) rm_Gusts_surePair K WGusts ad h [.ref (ad 55), .ref (ad 20), .int b0, .int c0] res h := fun sz =>
  con_start [(0, .ref (ad 55)), (1, .ref (ad 20)), (2, .int b0), (3, .int c0)] (by decide +kernel) rfl (Nat.le_of_ble_eq_true rfl) (fun p e s m args below meth c C0 hr hnm hsz => w_Gusts_surePair C0 hr N b0 c0 h hE)
abbrev y_Gusts_widen : MethodName := ⟨"CanoeSides$Gusts", "widen", "(LCanoeSides$River;LCanoeSides$Crew;I)Z"⟩
abbrev rm_Gusts_widen : Room := { frames := 3, cells := 0, slots := 0, locals := 73 }
theorem cd_Gusts_widen : cwd y_Gusts_widen 3 := by decide +kernel
theorem d_Gusts_widen_0 : decode prog_5_method_4_code 0 = .ok (.iconst 0, 1) := by decide +kernel
theorem d_Gusts_widen_1 : decode prog_5_method_4_code 1 = .ok (.istore 4, 2) := by decide +kernel
theorem d_Gusts_widen_3 : decode prog_5_method_4_code 3 = .ok (.iconst 0, 1) := by decide +kernel
theorem d_Gusts_widen_4 : decode prog_5_method_4_code 4 = .ok (.istore 5, 2) := by decide +kernel
theorem d_Gusts_widen_6 : decode prog_5_method_4_code 6 = .ok (.iload 5, 2) := by decide +kernel
theorem d_Gusts_widen_8 : decode prog_5_method_4_code 8 = .ok (.aload_n 0, 1) := by decide +kernel
theorem d_Gusts_widen_9 : decode prog_5_method_4_code 9 = .ok (.getfield 9, 3) := by decide +kernel
theorem d_Gusts_widen_12 : decode prog_5_method_4_code 12 = .ok (.arraylength, 1) := by decide +kernel
theorem d_Gusts_widen_13 : decode prog_5_method_4_code 13 = .ok (.if_icmp .ge 57, 3) := by decide +kernel
theorem d_Gusts_widen_16 : decode prog_5_method_4_code 16 = .ok (.aload_n 0, 1) := by decide +kernel
theorem d_Gusts_widen_17 : decode prog_5_method_4_code 17 = .ok (.getfield 9, 3) := by decide +kernel
theorem d_Gusts_widen_20 : decode prog_5_method_4_code 20 = .ok (.iload 5, 2) := by decide +kernel
theorem d_Gusts_widen_22 : decode prog_5_method_4_code 22 = .ok (.iaload, 1) := by decide +kernel
theorem d_Gusts_widen_23 : decode prog_5_method_4_code 23 = .ok (.bipush 99, 2) := by decide +kernel
theorem d_Gusts_widen_25 : decode prog_5_method_4_code 25 = .ok (.if_icmp .ne 39, 3) := by decide +kernel
theorem d_Gusts_widen_28 : decode prog_5_method_4_code 28 = .ok (.aload_n 1, 1) := by decide +kernel
theorem d_Gusts_widen_29 : decode prog_5_method_4_code 29 = .ok (.iload 5, 2) := by decide +kernel
theorem d_Gusts_widen_31 : decode prog_5_method_4_code 31 = .ok (.bipush 8, 2) := by decide +kernel
theorem d_Gusts_widen_33 : decode prog_5_method_4_code 33 = .ok (.idiv, 1) := by decide +kernel
theorem d_Gusts_widen_34 : decode prog_5_method_4_code 34 = .ok (.invokevirtual 45, 3) := by decide +kernel
theorem d_Gusts_widen_37 : decode prog_5_method_4_code 37 = .ok (.iconst 1, 1) := by decide +kernel
theorem d_Gusts_widen_38 : decode prog_5_method_4_code 38 = .ok (.if_icmp .eq 26, 3) := by decide +kernel
theorem d_Gusts_widen_41 : decode prog_5_method_4_code 41 = .ok (.aload_n 0, 1) := by decide +kernel
theorem d_Gusts_widen_42 : decode prog_5_method_4_code 42 = .ok (.aload_n 2, 1) := by decide +kernel
theorem d_Gusts_widen_43 : decode prog_5_method_4_code 43 = .ok (.iload 5, 2) := by decide +kernel
theorem d_Gusts_widen_45 : decode prog_5_method_4_code 45 = .ok (.iload_n 3, 1) := by decide +kernel
theorem d_Gusts_widen_46 : decode prog_5_method_4_code 46 = .ok (.invokevirtual 41, 3) := by decide +kernel
theorem d_Gusts_widen_49 : decode prog_5_method_4_code 49 = .ok (.iconst (-1), 1) := by decide +kernel
theorem d_Gusts_widen_50 : decode prog_5_method_4_code 50 = .ok (.if_icmp .eq 14, 3) := by decide +kernel
theorem d_Gusts_widen_53 : decode prog_5_method_4_code 53 = .ok (.aload_n 0, 1) := by decide +kernel
theorem d_Gusts_widen_54 : decode prog_5_method_4_code 54 = .ok (.getfield 9, 3) := by decide +kernel
theorem d_Gusts_widen_57 : decode prog_5_method_4_code 57 = .ok (.iload 5, 2) := by decide +kernel
theorem d_Gusts_widen_59 : decode prog_5_method_4_code 59 = .ok (.iload_n 3, 1) := by decide +kernel
theorem d_Gusts_widen_60 : decode prog_5_method_4_code 60 = .ok (.iastore, 1) := by decide +kernel
theorem d_Gusts_widen_61 : decode prog_5_method_4_code 61 = .ok (.iconst 1, 1) := by decide +kernel
theorem d_Gusts_widen_62 : decode prog_5_method_4_code 62 = .ok (.istore 4, 2) := by decide +kernel
theorem d_Gusts_widen_64 : decode prog_5_method_4_code 64 = .ok (.iinc 5 1, 3) := by decide +kernel
theorem d_Gusts_widen_67 : decode prog_5_method_4_code 67 = .ok (.goto (-61), 3) := by decide +kernel
theorem d_Gusts_widen_70 : decode prog_5_method_4_code 70 = .ok (.iload 4, 2) := by decide +kernel
theorem d_Gusts_widen_72 : decode prog_5_method_4_code 72 = .ok (.ireturn, 1) := by decide +kernel
theorem w_Gusts_widen_L6 {p : Program} {l : Launch} {e : Env} {s : State} {m : MethodId} {args : Array Value} {below : List Frame} {meth : Method} {c : Code} {K : KT} {A : Nat → Prop} {Q : State → Prop} (C0 : Cx p s m args meth c prog_5_method_4_code "CanoeSides$Gusts" 6 K A) (hr : meth.sig.returnType = (Option.some Jvm.ClassFile.FieldType.boolean)) {ad : Nat → Nat} (N : Nat) (x3 : Int32) (x4 : Int32) (x5 : Int32) (h : Hp) {x_ : (Int32 × Int32 × Hp) ⊕ (Int32 × Hp)} (hE : K_Gusts_widen_L6 N x3 x4 x5 h = some x_) (hk1 : ∀ z_, x_ = .inl z_ → G p l e rm_Gusts_widen s m args below meth c K A WGusts 6 0 0 Q 6 [(0, .ref (ad 55)), (1, .ref (ad 10)), (2, .ref (ad 20)), (3, .int x3), (4, .int z_.1), (5, .int z_.2.1)] [] ad z_.2.2) (hk3 : ∀ z_, x_ = .inr z_ → G p l e rm_Gusts_widen s m args below meth c K A WGusts 6 0 0 Q 70 [(4, .int z_.1)] [] ad z_.2) : G p l e rm_Gusts_widen s m args below meth c K A WGusts 6 0 0 Q 6 [(0, .ref (ad 55)), (1, .ref (ad 10)), (2, .ref (ad 20)), (3, .int x3), (4, .int x4), (5, .int x5)] [] ad h := by
  unfold K_Gusts_widen_L6 at hE
  refine g_iload C0 5 d_Gusts_widen_6 rfl ?_
  refine g_aload_n C0 0 d_Gusts_widen_8 rfl rfl ?_
  refine g_getr C0 CK_3 0 (by decide) t_363 0 rfl rfl d_Gusts_widen_9 ?_
  refine g_alen C0 1 rfl rfl (v := 384) (by decide) d_Gusts_widen_12 ?_
  have hB := ite_some hE
  refine g_icmp_ge C0 (tgt := 70) d_Gusts_widen_13 (by decide) (fun c_ => ?_) (fun c_ => ?_)
  · replace hE := hB.1 c_
    refine g_sub [4] (L' := [(4, .int x4)]) rfl ?_
    exact hk3 _ (Option.some.inj hE).symm
  · replace hE := hB.2 c_
    refine g_aload_n C0 0 d_Gusts_widen_16 rfl rfl ?_
    refine g_getr C0 CK_3 0 (by decide) t_363 0 rfl rfl d_Gusts_widen_17 ?_
    refine g_iload C0 5 d_Gusts_widen_20 rfl ?_
    obtain ⟨q22, v22, e22, hE⟩ := gA_some hE
    refine g_iald C0 1 rfl q22 d_Gusts_widen_22 ?_
    refine g_top e22 ?_
    refine g_bipush C0 (v := 99) d_Gusts_widen_23 (by decide) ?_
    have hB := ite_some hE
    refine g_icmp_ne C0 (tgt := 64) d_Gusts_widen_25 (by decide) (fun c_ => ?_) (fun c_ => ?_)
    · replace hE := hB.2 c_
      obtain ⟨v64, e64, hE⟩ := nm_some hE
      refine g_iinc C0 5 [(5, .int v64), (0, .ref (ad 55)), (1, .ref (ad 10)), (2, .ref (ad 20)), (3, .int x3), (4, .int x4)] d_Gusts_widen_64 rfl (by rw [e64]; rfl) (by decide) rfl ?_
      refine g_goto C0 (tgt := 6) d_Gusts_widen_67 (by decide) ?_
      refine g_sub [1, 2, 3, 4, 5, 0] (L' := [(0, .ref (ad 55)), (1, .ref (ad 10)), (2, .ref (ad 20)), (3, .int x3), (4, .int x4), (5, .int v64)]) rfl ?_
      exact hk1 _ (Option.some.inj hE).symm
    · replace hE := hB.1 c_
      refine g_aload_n C0 1 d_Gusts_widen_28 rfl rfl ?_
      refine g_iload C0 5 d_Gusts_widen_29 rfl ?_
      refine g_bipush C0 (v := 8) d_Gusts_widen_31 (by decide) ?_
      refine g_idiv C0 d_Gusts_widen_33 (by decide) ?_
      obtain ⟨v34, z34, hE⟩ := bd_some hE
      refine g_calliP C0 nd_Gusts [10, 11, 12] rfl (sb_River_Gusts) (runV C0 (m_River_kindOf l K ad h (x5 / 8) z34) 1 rfl ⟨t_957, t_408, t_409, t_86, t_410⟩ cd_River_kindOf (by decide) 2 rfl rfl (sb_River_Gusts) nd_River rfl rfl (Nat.le_of_ble_eq_true rfl) d_Gusts_widen_34) ?_
      refine g_iconst C0 (v := 1) d_Gusts_widen_37 (by decide) ?_
      have hB := ite_some hE
      refine g_icmp_eq C0 (tgt := 64) d_Gusts_widen_38 (by decide) (fun c_ => ?_) (fun c_ => ?_)
      · replace hE := hB.1 c_
        obtain ⟨v64, e64, hE⟩ := nm_some hE
        refine g_iinc C0 5 [(5, .int v64), (0, .ref (ad 55)), (1, .ref (ad 10)), (2, .ref (ad 20)), (3, .int x3), (4, .int x4)] d_Gusts_widen_64 rfl (by rw [e64]; rfl) (by decide) rfl ?_
        refine g_goto C0 (tgt := 6) d_Gusts_widen_67 (by decide) ?_
        refine g_sub [1, 2, 3, 4, 5, 0] (L' := [(0, .ref (ad 55)), (1, .ref (ad 10)), (2, .ref (ad 20)), (3, .int x3), (4, .int x4), (5, .int v64)]) rfl ?_
        exact hk1 _ (Option.some.inj hE).symm
      · replace hE := hB.2 c_
        refine g_aload_n C0 0 d_Gusts_widen_41 rfl rfl ?_
        refine g_aload_n C0 2 d_Gusts_widen_42 rfl rfl ?_
        refine g_iload C0 5 d_Gusts_widen_43 rfl ?_
        refine g_iload_n C0 3 d_Gusts_widen_45 rfl rfl ?_
        obtain ⟨v46, z46, hE⟩ := bd_some hE
        refine g_calliP C0 nd_Gusts [55, 56, 10, 11, 12, 20, 21, 22, 15, 16, 17] rfl (sbW_self WGusts) (runV C0 (m_Gusts_surePair l K ad h N x5 x3 z46) 3 rfl ⟨t_958, t_960, t_35, t_95, t_961⟩ cd_Gusts_surePair (by decide) 0 rfl rfl (sbW_self WGusts) nd_Gusts rfl rfl (Nat.le_of_ble_eq_true rfl) d_Gusts_widen_46) ?_
        refine g_iconst C0 (v := (-1)) d_Gusts_widen_49 (by decide) ?_
        have hB := ite_some hE
        refine g_icmp_eq C0 (tgt := 64) d_Gusts_widen_50 (by decide) (fun c_ => ?_) (fun c_ => ?_)
        · replace hE := hB.1 c_
          obtain ⟨v64, e64, hE⟩ := nm_some hE
          refine g_iinc C0 5 [(5, .int v64), (0, .ref (ad 55)), (1, .ref (ad 10)), (2, .ref (ad 20)), (3, .int x3), (4, .int x4)] d_Gusts_widen_64 rfl (by rw [e64]; rfl) (by decide) rfl ?_
          refine g_goto C0 (tgt := 6) d_Gusts_widen_67 (by decide) ?_
          refine g_sub [1, 2, 3, 4, 5, 0] (L' := [(0, .ref (ad 55)), (1, .ref (ad 10)), (2, .ref (ad 20)), (3, .int x3), (4, .int x4), (5, .int v64)]) rfl ?_
          exact hk1 _ (Option.some.inj hE).symm
        · replace hE := hB.2 c_
          refine g_aload_n C0 0 d_Gusts_widen_53 rfl rfl ?_
          refine g_getr C0 CK_3 0 (by decide) t_363 0 rfl rfl d_Gusts_widen_54 ?_
          refine g_iload C0 5 d_Gusts_widen_57 rfl ?_
          refine g_iload_n C0 3 d_Gusts_widen_59 rfl rfl ?_
          obtain ⟨q60, hE⟩ := sA_some hE
          obtain ⟨h60, e60, hE⟩ := nm_some hE
          refine g_iast C0 1 rfl nd_Gusts q60 d_Gusts_widen_60 ?_
          refine g_heap e60 ?_
          refine g_iconst C0 (v := 1) d_Gusts_widen_61 (by decide) ?_
          refine g_istore C0 [(4, .int 1), (0, .ref (ad 55)), (1, .ref (ad 10)), (2, .ref (ad 20)), (3, .int x3), (5, .int x5)] d_Gusts_widen_62 (by decide) rfl ?_
          obtain ⟨v64, e64, hE⟩ := nm_some hE
          refine g_iinc C0 5 [(5, .int v64), (4, .int 1), (0, .ref (ad 55)), (1, .ref (ad 10)), (2, .ref (ad 20)), (3, .int x3)] d_Gusts_widen_64 rfl (by rw [e64]; rfl) (by decide) rfl ?_
          refine g_goto C0 (tgt := 6) d_Gusts_widen_67 (by decide) ?_
          refine g_sub [2, 3, 4, 5, 1, 0] (L' := [(0, .ref (ad 55)), (1, .ref (ad 10)), (2, .ref (ad 20)), (3, .int x3), (4, .int 1), (5, .int v64)]) rfl ?_
          exact hk1 _ (Option.some.inj hE).symm
theorem w_Gusts_widen {p : Program} {l : Launch} {e : Env} {s : State} {m : MethodId} {args : Array Value} {below : List Frame} {meth : Method} {c : Code} {K : KT} {A : Nat → Prop} (C0 : Cx p s m args meth c prog_5_method_4_code "CanoeSides$Gusts" 6 K A) (hr : meth.sig.returnType = (Option.some Jvm.ClassFile.FieldType.boolean)) {ad : Nat → Nat} (N : Nat) (c0 : Int32) (h : Hp) {res : Int32 × Hp} (hE : K_Gusts_widen N c0 h = some res) : G p l e rm_Gusts_widen s m args below meth c K A WGusts 6 0 0 (QI s args below K A WGusts 0 0 ad res.1 res.2) 0 [(0, .ref (ad 55)), (1, .ref (ad 10)), (2, .ref (ad 20)), (3, .int c0)] [] ad h := by
  unfold K_Gusts_widen at hE
  refine g_iconst C0 (v := 0) d_Gusts_widen_0 (by decide) ?_
  refine g_istore C0 [(4, .int 0), (0, .ref (ad 55)), (1, .ref (ad 10)), (2, .ref (ad 20)), (3, .int c0)] d_Gusts_widen_1 (by decide) rfl ?_
  refine g_iconst C0 (v := 0) d_Gusts_widen_3 (by decide) ?_
  refine g_istore C0 [(5, .int 0), (4, .int 0), (0, .ref (ad 55)), (1, .ref (ad 10)), (2, .ref (ad 20)), (3, .int c0)] d_Gusts_widen_4 (by decide) rfl ?_
  refine g_sub [2, 3, 4, 5, 1, 0] (L' := [(0, .ref (ad 55)), (1, .ref (ad 10)), (2, .ref (ad 20)), (3, .int c0), (4, .int 0), (5, .int 0)]) rfl ?_
  obtain ⟨t6, z6, hE⟩ := bd_some hE
  refine loopG (fun z_ : Int32 × Int32 × Hp => K_Gusts_widen_L6 N c0 z_.1 z_.2.1 z_.2.2) (fun z_ : Int32 × Int32 × Hp => G p l e rm_Gusts_widen s m args below meth c K A WGusts 6 0 0 _ 6 [(0, .ref (ad 55)), (1, .ref (ad 10)), (2, .ref (ad 20)), (3, .int c0), (4, .int z_.1), (5, .int z_.2.1)] [] ad z_.2.2) (fun z_ : Int32 × Hp => G p l e rm_Gusts_widen s m args below meth c K A WGusts 6 0 0 _ 70 [(4, .int z_.1)] [] ad z_.2) (fun z_ x_ hz k1 k2 => w_Gusts_widen_L6 C0 hr N c0 z_.1 z_.2.1 z_.2.2 hz k1 k2) _ _ _ z6 ?_
  try dsimp only
  refine g_iload C0 0 d_Gusts_widen_70 rfl ?_
  obtain ⟨q72, hE⟩ := bz_some hE
  obtain rfl := Option.some.inj hE
  exact g_zret C0 hr q72 d_Gusts_widen_72
theorem m_Gusts_widen (l : Launch) (K : KT) (ad : Nat → Nat) (h : Hp) (N : Nat) (c0 : Int32) {res : Int32 × Hp} (hE : K_Gusts_widen N c0 h = some res) : ConI l y_Gusts_widen prog_5_method_4_code 6 (Option.some Jvm.ClassFile.FieldType.boolean) rm_Gusts_widen K WGusts ad h [.ref (ad 55), .ref (ad 10), .ref (ad 20), .int c0] res.1 res.2 := fun sz =>
  con_start [(0, .ref (ad 55)), (1, .ref (ad 10)), (2, .ref (ad 20)), (3, .int c0)] (by decide +kernel) rfl (Nat.le_of_ble_eq_true rfl) (fun p e s m args below meth c C0 hr hnm hsz => w_Gusts_widen C0 hr N c0 h hE)
abbrev y_Gusts_look : MethodName := ⟨"CanoeSides$Gusts", "look", "(LCanoeSides$River;LCanoeSides$Crew;I)V"⟩
abbrev rm_Gusts_look : Room := { frames := 4, cells := 0, slots := 0, locals := 98 }
theorem cd_Gusts_look : cwd y_Gusts_look 3 := by decide +kernel
theorem d_Gusts_look_0 : decode prog_5_method_3_code 0 = .ok (.iload_n 3, 1) := by decide +kernel
theorem d_Gusts_look_1 : decode prog_5_method_3_code 1 = .ok (.aload_n 0, 1) := by decide +kernel
theorem d_Gusts_look_2 : decode prog_5_method_3_code 2 = .ok (.getfield 22, 3) := by decide +kernel
theorem d_Gusts_look_5 : decode prog_5_method_3_code 5 = .ok (.if_icmp .eq 16, 3) := by decide +kernel
theorem d_Gusts_look_8 : decode prog_5_method_3_code 8 = .ok (.iload_n 3, 1) := by decide +kernel
theorem d_Gusts_look_9 : decode prog_5_method_3_code 9 = .ok (.ifCond .lt 12, 3) := by decide +kernel
theorem d_Gusts_look_12 : decode prog_5_method_3_code 12 = .ok (.iload_n 3, 1) := by decide +kernel
theorem d_Gusts_look_13 : decode prog_5_method_3_code 13 = .ok (.aload_n 0, 1) := by decide +kernel
theorem d_Gusts_look_14 : decode prog_5_method_3_code 14 = .ok (.getfield 9, 3) := by decide +kernel
theorem d_Gusts_look_17 : decode prog_5_method_3_code 17 = .ok (.arraylength, 1) := by decide +kernel
theorem d_Gusts_look_18 : decode prog_5_method_3_code 18 = .ok (.if_icmp .lt 4, 3) := by decide +kernel
theorem d_Gusts_look_21 : decode prog_5_method_3_code 21 = .ok (.return_, 1) := by decide +kernel
theorem d_Gusts_look_22 : decode prog_5_method_3_code 22 = .ok (.aload_n 0, 1) := by decide +kernel
theorem d_Gusts_look_23 : decode prog_5_method_3_code 23 = .ok (.iload_n 3, 1) := by decide +kernel
theorem d_Gusts_look_24 : decode prog_5_method_3_code 24 = .ok (.putfield 22, 3) := by decide +kernel
theorem d_Gusts_look_27 : decode prog_5_method_3_code 27 = .ok (.aload_n 0, 1) := by decide +kernel
theorem d_Gusts_look_28 : decode prog_5_method_3_code 28 = .ok (.iconst (-1), 1) := by decide +kernel
theorem d_Gusts_look_29 : decode prog_5_method_3_code 29 = .ok (.putfield 15, 3) := by decide +kernel
theorem d_Gusts_look_32 : decode prog_5_method_3_code 32 = .ok (.aload_n 0, 1) := by decide +kernel
theorem d_Gusts_look_33 : decode prog_5_method_3_code 33 = .ok (.iconst (-1), 1) := by decide +kernel
theorem d_Gusts_look_34 : decode prog_5_method_3_code 34 = .ok (.putfield 19, 3) := by decide +kernel
theorem d_Gusts_look_37 : decode prog_5_method_3_code 37 = .ok (.aload_n 1, 1) := by decide +kernel
theorem d_Gusts_look_38 : decode prog_5_method_3_code 38 = .ok (.getfield 25, 3) := by decide +kernel
theorem d_Gusts_look_41 : decode prog_5_method_3_code 41 = .ok (.iconst (-1), 1) := by decide +kernel
theorem d_Gusts_look_42 : decode prog_5_method_3_code 42 = .ok (.if_icmp .eq 11, 3) := by decide +kernel
theorem d_Gusts_look_45 : decode prog_5_method_3_code 45 = .ok (.aload_n 1, 1) := by decide +kernel
theorem d_Gusts_look_46 : decode prog_5_method_3_code 46 = .ok (.getfield 30, 3) := by decide +kernel
theorem d_Gusts_look_49 : decode prog_5_method_3_code 49 = .ok (.iconst (-1), 1) := by decide +kernel
theorem d_Gusts_look_50 : decode prog_5_method_3_code 50 = .ok (.if_icmp .ne 4, 3) := by decide +kernel
theorem d_Gusts_look_53 : decode prog_5_method_3_code 53 = .ok (.return_, 1) := by decide +kernel
theorem d_Gusts_look_54 : decode prog_5_method_3_code 54 = .ok (.iconst 0, 1) := by decide +kernel
theorem d_Gusts_look_55 : decode prog_5_method_3_code 55 = .ok (.istore 4, 2) := by decide +kernel
theorem d_Gusts_look_57 : decode prog_5_method_3_code 57 = .ok (.iload 4, 2) := by decide +kernel
theorem d_Gusts_look_59 : decode prog_5_method_3_code 59 = .ok (.aload_n 0, 1) := by decide +kernel
theorem d_Gusts_look_60 : decode prog_5_method_3_code 60 = .ok (.getfield 9, 3) := by decide +kernel
theorem d_Gusts_look_63 : decode prog_5_method_3_code 63 = .ok (.arraylength, 1) := by decide +kernel
theorem d_Gusts_look_64 : decode prog_5_method_3_code 64 = .ok (.if_icmp .ge 31, 3) := by decide +kernel
theorem d_Gusts_look_67 : decode prog_5_method_3_code 67 = .ok (.aload_n 0, 1) := by decide +kernel
theorem d_Gusts_look_68 : decode prog_5_method_3_code 68 = .ok (.getfield 9, 3) := by decide +kernel
theorem d_Gusts_look_71 : decode prog_5_method_3_code 71 = .ok (.iload 4, 2) := by decide +kernel
theorem d_Gusts_look_73 : decode prog_5_method_3_code 73 = .ok (.aload_n 1, 1) := by decide +kernel
theorem d_Gusts_look_74 : decode prog_5_method_3_code 74 = .ok (.iload 4, 2) := by decide +kernel
theorem d_Gusts_look_76 : decode prog_5_method_3_code 76 = .ok (.invokevirtual 33, 3) := by decide +kernel
theorem d_Gusts_look_79 : decode prog_5_method_3_code 79 = .ok (.ifCond .eq 7, 3) := by decide +kernel
theorem d_Gusts_look_82 : decode prog_5_method_3_code 82 = .ok (.iconst 0, 1) := by decide +kernel
theorem d_Gusts_look_83 : decode prog_5_method_3_code 83 = .ok (.goto 5, 3) := by decide +kernel
theorem d_Gusts_look_86 : decode prog_5_method_3_code 86 = .ok (.bipush 99, 2) := by decide +kernel
theorem d_Gusts_look_88 : decode prog_5_method_3_code 88 = .ok (.iastore, 1) := by decide +kernel
theorem d_Gusts_look_89 : decode prog_5_method_3_code 89 = .ok (.iinc 4 1, 3) := by decide +kernel
theorem d_Gusts_look_92 : decode prog_5_method_3_code 92 = .ok (.goto (-35), 3) := by decide +kernel
theorem d_Gusts_look_95 : decode prog_5_method_3_code 95 = .ok (.iconst 1, 1) := by decide +kernel
theorem d_Gusts_look_96 : decode prog_5_method_3_code 96 = .ok (.istore 4, 2) := by decide +kernel
theorem d_Gusts_look_98 : decode prog_5_method_3_code 98 = .ok (.iconst 1, 1) := by decide +kernel
theorem d_Gusts_look_99 : decode prog_5_method_3_code 99 = .ok (.istore 5, 2) := by decide +kernel
theorem d_Gusts_look_101 : decode prog_5_method_3_code 101 = .ok (.iload 5, 2) := by decide +kernel
theorem d_Gusts_look_103 : decode prog_5_method_3_code 103 = .ok (.bipush 30, 2) := by decide +kernel
theorem d_Gusts_look_105 : decode prog_5_method_3_code 105 = .ok (.if_icmp .gt 35, 3) := by decide +kernel
theorem d_Gusts_look_108 : decode prog_5_method_3_code 108 = .ok (.iload 4, 2) := by decide +kernel
theorem d_Gusts_look_110 : decode prog_5_method_3_code 110 = .ok (.ifCond .eq 30, 3) := by decide +kernel
theorem d_Gusts_look_113 : decode prog_5_method_3_code 113 = .ok (.aload_n 0, 1) := by decide +kernel
theorem d_Gusts_look_114 : decode prog_5_method_3_code 114 = .ok (.getfield 9, 3) := by decide +kernel
theorem d_Gusts_look_117 : decode prog_5_method_3_code 117 = .ok (.iload_n 3, 1) := by decide +kernel
theorem d_Gusts_look_118 : decode prog_5_method_3_code 118 = .ok (.iaload, 1) := by decide +kernel
theorem d_Gusts_look_119 : decode prog_5_method_3_code 119 = .ok (.bipush 99, 2) := by decide +kernel
theorem d_Gusts_look_121 : decode prog_5_method_3_code 121 = .ok (.if_icmp .ne 19, 3) := by decide +kernel
theorem d_Gusts_look_124 : decode prog_5_method_3_code 124 = .ok (.aload_n 0, 1) := by decide +kernel
theorem d_Gusts_look_125 : decode prog_5_method_3_code 125 = .ok (.aload_n 1, 1) := by decide +kernel
theorem d_Gusts_look_126 : decode prog_5_method_3_code 126 = .ok (.aload_n 2, 1) := by decide +kernel
theorem d_Gusts_look_127 : decode prog_5_method_3_code 127 = .ok (.iload 5, 2) := by decide +kernel
theorem d_Gusts_look_129 : decode prog_5_method_3_code 129 = .ok (.invokevirtual 37, 3) := by decide +kernel
theorem d_Gusts_look_132 : decode prog_5_method_3_code 132 = .ok (.istore 4, 2) := by decide +kernel
theorem d_Gusts_look_134 : decode prog_5_method_3_code 134 = .ok (.iinc 5 1, 3) := by decide +kernel
theorem d_Gusts_look_137 : decode prog_5_method_3_code 137 = .ok (.goto (-36), 3) := by decide +kernel
theorem d_Gusts_look_140 : decode prog_5_method_3_code 140 = .ok (.aload_n 0, 1) := by decide +kernel
theorem d_Gusts_look_141 : decode prog_5_method_3_code 141 = .ok (.getfield 9, 3) := by decide +kernel
theorem d_Gusts_look_144 : decode prog_5_method_3_code 144 = .ok (.iload_n 3, 1) := by decide +kernel
theorem d_Gusts_look_145 : decode prog_5_method_3_code 145 = .ok (.iaload, 1) := by decide +kernel
theorem d_Gusts_look_146 : decode prog_5_method_3_code 146 = .ok (.bipush 99, 2) := by decide +kernel
theorem d_Gusts_look_148 : decode prog_5_method_3_code 148 = .ok (.if_icmp .eq 27, 3) := by decide +kernel
theorem d_Gusts_look_151 : decode prog_5_method_3_code 151 = .ok (.aload_n 0, 1) := by decide +kernel
theorem d_Gusts_look_152 : decode prog_5_method_3_code 152 = .ok (.aload_n 0, 1) := by decide +kernel
theorem d_Gusts_look_153 : decode prog_5_method_3_code 153 = .ok (.getfield 9, 3) := by decide +kernel
theorem d_Gusts_look_156 : decode prog_5_method_3_code 156 = .ok (.iload_n 3, 1) := by decide +kernel
theorem d_Gusts_look_157 : decode prog_5_method_3_code 157 = .ok (.iaload, 1) := by decide +kernel
theorem d_Gusts_look_158 : decode prog_5_method_3_code 158 = .ok (.putfield 15, 3) := by decide +kernel
theorem d_Gusts_look_161 : decode prog_5_method_3_code 161 = .ok (.aload_n 0, 1) := by decide +kernel
theorem d_Gusts_look_162 : decode prog_5_method_3_code 162 = .ok (.aload_n 0, 1) := by decide +kernel
theorem d_Gusts_look_163 : decode prog_5_method_3_code 163 = .ok (.aload_n 2, 1) := by decide +kernel
theorem d_Gusts_look_164 : decode prog_5_method_3_code 164 = .ok (.iload_n 3, 1) := by decide +kernel
theorem d_Gusts_look_165 : decode prog_5_method_3_code 165 = .ok (.aload_n 0, 1) := by decide +kernel
theorem d_Gusts_look_166 : decode prog_5_method_3_code 166 = .ok (.getfield 15, 3) := by decide +kernel
theorem d_Gusts_look_169 : decode prog_5_method_3_code 169 = .ok (.invokevirtual 41, 3) := by decide +kernel
theorem d_Gusts_look_172 : decode prog_5_method_3_code 172 = .ok (.putfield 19, 3) := by decide +kernel
theorem d_Gusts_look_175 : decode prog_5_method_3_code 175 = .ok (.return_, 1) := by decide +kernel
theorem w_Gusts_look_J88 {p : Program} {l : Launch} {e : Env} {s : State} {m : MethodId} {args : Array Value} {below : List Frame} {meth : Method} {c : Code} {K : KT} {A : Nat → Prop} {Q : State → Prop} (C0 : Cx p s m args meth c prog_5_method_3_code "CanoeSides$Gusts" 6 K A) (hr : meth.sig.returnType = (Option.none : Option Jvm.ClassFile.FieldType)) {ad : Nat → Nat} (N : Nat) (x3 : Int32) (x4 : Int32) (y1 : Int32) (y2 : Int32) (h : Hp) {x_ : (Int32 × Hp) ⊕ (Hp)} (hE : K_Gusts_look_J88 N x3 x4 y1 y2 h = some x_) (hk1 : ∀ z_, x_ = .inl z_ → G p l e rm_Gusts_look s m args below meth c K A WGusts 6 0 0 Q 57 [(0, .ref (ad 55)), (1, .ref (ad 10)), (2, .ref (ad 20)), (3, .int x3), (4, .int z_.1)] [] ad z_.2) (hk3 : ∀ z_, x_ = .inr z_ → G p l e rm_Gusts_look s m args below meth c K A WGusts 6 0 0 Q 95 [(0, .ref (ad 55)), (1, .ref (ad 10)), (2, .ref (ad 20)), (3, .int x3)] [] ad z_) : G p l e rm_Gusts_look s m args below meth c K A WGusts 6 0 0 Q 88 [(0, .ref (ad 55)), (1, .ref (ad 10)), (2, .ref (ad 20)), (3, .int x3), (4, .int x4)] [.int y2, .int y1, .ref (ad 56)] ad h := by
  unfold K_Gusts_look_J88 at hE
  obtain ⟨q88, hE⟩ := sA_some hE
  obtain ⟨h88, e88, hE⟩ := nm_some hE
  refine g_iast C0 1 rfl nd_Gusts q88 d_Gusts_look_88 ?_
  refine g_heap e88 ?_
  obtain ⟨v89, e89, hE⟩ := nm_some hE
  refine g_iinc C0 4 [(4, .int v89), (0, .ref (ad 55)), (1, .ref (ad 10)), (2, .ref (ad 20)), (3, .int x3)] d_Gusts_look_89 rfl (by rw [e89]; rfl) (by decide) rfl ?_
  refine g_goto C0 (tgt := 57) d_Gusts_look_92 (by decide) ?_
  refine g_sub [1, 2, 3, 4, 0] (L' := [(0, .ref (ad 55)), (1, .ref (ad 10)), (2, .ref (ad 20)), (3, .int x3), (4, .int v89)]) rfl ?_
  exact hk1 _ (Option.some.inj hE).symm
theorem w_Gusts_look_L57 {p : Program} {l : Launch} {e : Env} {s : State} {m : MethodId} {args : Array Value} {below : List Frame} {meth : Method} {c : Code} {K : KT} {A : Nat → Prop} {Q : State → Prop} (C0 : Cx p s m args meth c prog_5_method_3_code "CanoeSides$Gusts" 6 K A) (hr : meth.sig.returnType = (Option.none : Option Jvm.ClassFile.FieldType)) {ad : Nat → Nat} (N : Nat) (x3 : Int32) (x4 : Int32) (h : Hp) {x_ : (Int32 × Hp) ⊕ (Hp)} (hE : K_Gusts_look_L57 N x3 x4 h = some x_) (hk1 : ∀ z_, x_ = .inl z_ → G p l e rm_Gusts_look s m args below meth c K A WGusts 6 0 0 Q 57 [(0, .ref (ad 55)), (1, .ref (ad 10)), (2, .ref (ad 20)), (3, .int x3), (4, .int z_.1)] [] ad z_.2) (hk3 : ∀ z_, x_ = .inr z_ → G p l e rm_Gusts_look s m args below meth c K A WGusts 6 0 0 Q 95 [(0, .ref (ad 55)), (1, .ref (ad 10)), (2, .ref (ad 20)), (3, .int x3)] [] ad z_) : G p l e rm_Gusts_look s m args below meth c K A WGusts 6 0 0 Q 57 [(0, .ref (ad 55)), (1, .ref (ad 10)), (2, .ref (ad 20)), (3, .int x3), (4, .int x4)] [] ad h := by
  unfold K_Gusts_look_L57 at hE
  refine g_iload C0 4 d_Gusts_look_57 rfl ?_
  refine g_aload_n C0 0 d_Gusts_look_59 rfl rfl ?_
  refine g_getr C0 CK_3 0 (by decide) t_363 0 rfl rfl d_Gusts_look_60 ?_
  refine g_alen C0 1 rfl rfl (v := 384) (by decide) d_Gusts_look_63 ?_
  have hB := ite_some hE
  refine g_icmp_ge C0 (tgt := 95) d_Gusts_look_64 (by decide) (fun c_ => ?_) (fun c_ => ?_)
  · replace hE := hB.1 c_
    refine g_sub [0, 1, 2, 3] (L' := [(0, .ref (ad 55)), (1, .ref (ad 10)), (2, .ref (ad 20)), (3, .int x3)]) rfl ?_
    exact hk3 _ (Option.some.inj hE).symm
  · replace hE := hB.2 c_
    refine g_aload_n C0 0 d_Gusts_look_67 rfl rfl ?_
    refine g_getr C0 CK_3 0 (by decide) t_363 0 rfl rfl d_Gusts_look_68 ?_
    refine g_iload C0 4 d_Gusts_look_71 rfl ?_
    refine g_aload_n C0 1 d_Gusts_look_73 rfl rfl ?_
    refine g_iload C0 4 d_Gusts_look_74 rfl ?_
    obtain ⟨v76, z76, hE⟩ := bd_some hE
    refine g_calliP C0 nd_Gusts [10, 11, 12] rfl (sb_River_Gusts) (runV C0 (m_River_isGoal l K ad h x4 z76) 1 rfl ⟨t_952, t_730, t_731, t_86, t_732⟩ cd_River_isGoal (by decide) 2 rfl rfl (sb_River_Gusts) nd_River rfl rfl (Nat.le_of_ble_eq_true rfl) d_Gusts_look_76) ?_
    have hB := ite_some hE
    refine g_if_eq C0 (tgt := 86) d_Gusts_look_79 (by decide) (fun c_ => ?_) (fun c_ => ?_)
    · replace hE := hB.1 c_
      refine g_bipush C0 (v := 99) d_Gusts_look_86 (by decide) ?_
      exact w_Gusts_look_J88 C0 hr N x3 x4 x4 99 h hE hk1 hk3
    · replace hE := hB.2 c_
      refine g_iconst C0 (v := 0) d_Gusts_look_82 (by decide) ?_
      refine g_goto C0 (tgt := 88) d_Gusts_look_83 (by decide) ?_
      exact w_Gusts_look_J88 C0 hr N x3 x4 x4 0 h hE hk1 hk3
theorem w_Gusts_look_L101 {p : Program} {l : Launch} {e : Env} {s : State} {m : MethodId} {args : Array Value} {below : List Frame} {meth : Method} {c : Code} {K : KT} {A : Nat → Prop} {Q : State → Prop} (C0 : Cx p s m args meth c prog_5_method_3_code "CanoeSides$Gusts" 6 K A) (hr : meth.sig.returnType = (Option.none : Option Jvm.ClassFile.FieldType)) {ad : Nat → Nat} (N : Nat) (x3 : Int32) (x4 : Int32) (x5 : Int32) (h : Hp) {x_ : (Int32 × Int32 × Hp) ⊕ (Hp)} (hE : K_Gusts_look_L101 N x3 x4 x5 h = some x_) (hk1 : ∀ z_, x_ = .inl z_ → G p l e rm_Gusts_look s m args below meth c K A WGusts 6 0 0 Q 101 [(0, .ref (ad 55)), (1, .ref (ad 10)), (2, .ref (ad 20)), (3, .int x3), (4, .int z_.1), (5, .int z_.2.1)] [] ad z_.2.2) (hk3 : ∀ z_, x_ = .inr z_ → G p l e rm_Gusts_look s m args below meth c K A WGusts 6 0 0 Q 140 [(0, .ref (ad 55)), (2, .ref (ad 20)), (3, .int x3)] [] ad z_) : G p l e rm_Gusts_look s m args below meth c K A WGusts 6 0 0 Q 101 [(0, .ref (ad 55)), (1, .ref (ad 10)), (2, .ref (ad 20)), (3, .int x3), (4, .int x4), (5, .int x5)] [] ad h := by
  unfold K_Gusts_look_L101 at hE
  refine g_iload C0 5 d_Gusts_look_101 rfl ?_
  refine g_bipush C0 (v := 30) d_Gusts_look_103 (by decide) ?_
  have hB := ite_some hE
  refine g_icmp_gt C0 (tgt := 140) d_Gusts_look_105 (by decide) (fun c_ => ?_) (fun c_ => ?_)
  · replace hE := hB.1 c_
    refine g_sub [0, 2, 3] (L' := [(0, .ref (ad 55)), (2, .ref (ad 20)), (3, .int x3)]) rfl ?_
    exact hk3 _ (Option.some.inj hE).symm
  · replace hE := hB.2 c_
    refine g_iload C0 4 d_Gusts_look_108 rfl ?_
    have hB := ite_some hE
    refine g_if_eq C0 (tgt := 140) d_Gusts_look_110 (by decide) (fun c_ => ?_) (fun c_ => ?_)
    · replace hE := hB.1 c_
      refine g_sub [0, 2, 3] (L' := [(0, .ref (ad 55)), (2, .ref (ad 20)), (3, .int x3)]) rfl ?_
      exact hk3 _ (Option.some.inj hE).symm
    · replace hE := hB.2 c_
      refine g_aload_n C0 0 d_Gusts_look_113 rfl rfl ?_
      refine g_getr C0 CK_3 0 (by decide) t_363 0 rfl rfl d_Gusts_look_114 ?_
      refine g_iload_n C0 3 d_Gusts_look_117 rfl rfl ?_
      obtain ⟨q118, v118, e118, hE⟩ := gA_some hE
      refine g_iald C0 1 rfl q118 d_Gusts_look_118 ?_
      refine g_top e118 ?_
      refine g_bipush C0 (v := 99) d_Gusts_look_119 (by decide) ?_
      have hB := ite_some hE
      refine g_icmp_ne C0 (tgt := 140) d_Gusts_look_121 (by decide) (fun c_ => ?_) (fun c_ => ?_)
      · replace hE := hB.2 c_
        refine g_sub [0, 2, 3] (L' := [(0, .ref (ad 55)), (2, .ref (ad 20)), (3, .int x3)]) rfl ?_
        exact hk3 _ (Option.some.inj hE).symm
      · replace hE := hB.1 c_
        refine g_aload_n C0 0 d_Gusts_look_124 rfl rfl ?_
        refine g_aload_n C0 1 d_Gusts_look_125 rfl rfl ?_
        refine g_aload_n C0 2 d_Gusts_look_126 rfl rfl ?_
        refine g_iload C0 5 d_Gusts_look_127 rfl ?_
        obtain ⟨v129, h129, z129, hE⟩ := bd2_some hE
        refine g_calli C0 nd_Gusts [55, 56, 10, 11, 12, 20, 21, 22, 15, 16, 17] rfl (sbW_self WGusts) (runV C0 (m_Gusts_widen l K ad h N x5 z129) 3 rfl ⟨t_953, t_955, t_34, t_95, t_956⟩ cd_Gusts_widen (by decide) 0 rfl rfl (sbW_self WGusts) nd_Gusts rfl rfl (Nat.le_of_ble_eq_true rfl) d_Gusts_look_129) ?_
        refine g_mx [55, 56, 10, 11, 12, 20, 21, 22, 15, 16, 17] rfl ?_
        refine g_istore C0 [(4, .int v129), (0, .ref (ad 55)), (1, .ref (ad 10)), (2, .ref (ad 20)), (3, .int x3), (5, .int x5)] d_Gusts_look_132 (by decide) rfl ?_
        obtain ⟨v134, e134, hE⟩ := nm_some hE
        refine g_iinc C0 5 [(5, .int v134), (4, .int v129), (0, .ref (ad 55)), (1, .ref (ad 10)), (2, .ref (ad 20)), (3, .int x3)] d_Gusts_look_134 rfl (by rw [e134]; rfl) (by decide) rfl ?_
        refine g_goto C0 (tgt := 101) d_Gusts_look_137 (by decide) ?_
        refine g_sub [2, 3, 4, 5, 1, 0] (L' := [(0, .ref (ad 55)), (1, .ref (ad 10)), (2, .ref (ad 20)), (3, .int x3), (4, .int v129), (5, .int v134)]) rfl ?_
        exact hk1 _ (Option.some.inj hE).symm
theorem w_Gusts_look_J140 {p : Program} {l : Launch} {e : Env} {s : State} {m : MethodId} {args : Array Value} {below : List Frame} {meth : Method} {c : Code} {K : KT} {A : Nat → Prop} (C0 : Cx p s m args meth c prog_5_method_3_code "CanoeSides$Gusts" 6 K A) (hr : meth.sig.returnType = (Option.none : Option Jvm.ClassFile.FieldType)) {ad : Nat → Nat} (N : Nat) (x3 : Int32) (h : Hp) {res : Hp} (hE : K_Gusts_look_J140 N x3 h = some res) : G p l e rm_Gusts_look s m args below meth c K A WGusts 6 0 0 (QV s args below K A WGusts 0 0 ad res) 140 [(0, .ref (ad 55)), (2, .ref (ad 20)), (3, .int x3)] [] ad h := by
  unfold K_Gusts_look_J140 at hE
  refine g_aload_n C0 0 d_Gusts_look_140 rfl rfl ?_
  refine g_getr C0 CK_3 0 (by decide) t_363 0 rfl rfl d_Gusts_look_141 ?_
  refine g_iload_n C0 2 d_Gusts_look_144 rfl rfl ?_
  obtain ⟨q145, v145, e145, hE⟩ := gA_some hE
  refine g_iald C0 1 rfl q145 d_Gusts_look_145 ?_
  refine g_top e145 ?_
  refine g_bipush C0 (v := 99) d_Gusts_look_146 (by decide) ?_
  have hB := ite_some hE
  refine g_icmp_eq C0 (tgt := 175) d_Gusts_look_148 (by decide) (fun c_ => ?_) (fun c_ => ?_)
  · replace hE := hB.1 c_
    obtain rfl := Option.some.inj hE
    exact g_vret C0 hr d_Gusts_look_175
  · replace hE := hB.2 c_
    refine g_aload_n C0 0 d_Gusts_look_151 rfl rfl ?_
    refine g_aload_n C0 0 d_Gusts_look_152 rfl rfl ?_
    refine g_getr C0 CK_3 0 (by decide) t_363 0 rfl rfl d_Gusts_look_153 ?_
    refine g_iload_n C0 2 d_Gusts_look_156 rfl rfl ?_
    obtain ⟨q157, v157, e157, hE⟩ := gA_some hE
    refine g_iald C0 1 rfl q157 d_Gusts_look_157 ?_
    refine g_top e157 ?_
    obtain ⟨h158, e158, hE⟩ := nm_some hE
    refine g_puti C0 CK_3 CT_3 1 (by decide) t_364 rfl (by decide +kernel) nd_Gusts 0 rfl rfl d_Gusts_look_158 ?_
    refine g_heap e158 ?_
    refine g_aload_n C0 0 d_Gusts_look_161 rfl rfl ?_
    refine g_aload_n C0 0 d_Gusts_look_162 rfl rfl ?_
    refine g_aload_n C0 1 d_Gusts_look_163 rfl rfl ?_
    refine g_iload_n C0 2 d_Gusts_look_164 rfl rfl ?_
    refine g_aload_n C0 0 d_Gusts_look_165 rfl rfl ?_
    refine g_geti C0 CK_3 1 (by decide) t_364 0 rfl rfl d_Gusts_look_166 ?_
    obtain ⟨v169, z169, hE⟩ := bd_some hE
    refine g_calliP C0 nd_Gusts [55, 56, 10, 11, 12, 20, 21, 22, 15, 16, 17] rfl (sbW_self WGusts) (runV C0 (m_Gusts_surePair l K ad h158 N x3 (h158 55 1) z169) 3 rfl ⟨t_958, t_960, t_35, t_95, t_961⟩ cd_Gusts_surePair (by decide) 0 rfl rfl (sbW_self WGusts) nd_Gusts rfl rfl (Nat.le_of_ble_eq_true rfl) d_Gusts_look_169) ?_
    obtain ⟨h172, e172, hE⟩ := nm_some hE
    refine g_puti C0 CK_3 CT_3 2 (by decide) t_366 rfl (by decide +kernel) nd_Gusts 0 rfl rfl d_Gusts_look_172 ?_
    refine g_heap e172 ?_
    obtain rfl := Option.some.inj hE
    exact g_vret C0 hr d_Gusts_look_175
theorem w_Gusts_look {p : Program} {l : Launch} {e : Env} {s : State} {m : MethodId} {args : Array Value} {below : List Frame} {meth : Method} {c : Code} {K : KT} {A : Nat → Prop} (C0 : Cx p s m args meth c prog_5_method_3_code "CanoeSides$Gusts" 6 K A) (hr : meth.sig.returnType = (Option.none : Option Jvm.ClassFile.FieldType)) {ad : Nat → Nat} (N : Nat) (c0 : Int32) (h : Hp) {res : Hp} (hE : K_Gusts_look N c0 h = some res) : G p l e rm_Gusts_look s m args below meth c K A WGusts 6 0 0 (QV s args below K A WGusts 0 0 ad res) 0 [(0, .ref (ad 55)), (1, .ref (ad 10)), (2, .ref (ad 20)), (3, .int c0)] [] ad h := by
  unfold K_Gusts_look at hE
  refine g_iload_n C0 3 d_Gusts_look_0 rfl rfl ?_
  refine g_aload_n C0 0 d_Gusts_look_1 rfl rfl ?_
  refine g_geti C0 CK_3 3 (by decide) t_368 0 rfl rfl d_Gusts_look_2 ?_
  have hB := ite_some hE
  refine g_icmp_eq C0 (tgt := 21) d_Gusts_look_5 (by decide) (fun c_ => ?_) (fun c_ => ?_)
  · replace hE := hB.1 c_
    obtain rfl := Option.some.inj hE
    exact g_vret C0 hr d_Gusts_look_21
  · replace hE := hB.2 c_
    refine g_iload_n C0 3 d_Gusts_look_8 rfl rfl ?_
    have hB := ite_some hE
    refine g_if_lt C0 (tgt := 21) d_Gusts_look_9 (by decide) (fun c_ => ?_) (fun c_ => ?_)
    · replace hE := hB.1 c_
      obtain rfl := Option.some.inj hE
      exact g_vret C0 hr d_Gusts_look_21
    · replace hE := hB.2 c_
      refine g_iload_n C0 3 d_Gusts_look_12 rfl rfl ?_
      refine g_aload_n C0 0 d_Gusts_look_13 rfl rfl ?_
      refine g_getr C0 CK_3 0 (by decide) t_363 0 rfl rfl d_Gusts_look_14 ?_
      refine g_alen C0 1 rfl rfl (v := 384) (by decide) d_Gusts_look_17 ?_
      have hB := ite_some hE
      refine g_icmp_lt C0 (tgt := 22) d_Gusts_look_18 (by decide) (fun c_ => ?_) (fun c_ => ?_)
      · replace hE := hB.1 c_
        refine g_aload_n C0 0 d_Gusts_look_22 rfl rfl ?_
        refine g_iload_n C0 3 d_Gusts_look_23 rfl rfl ?_
        obtain ⟨h24, e24, hE⟩ := nm_some hE
        refine g_puti C0 CK_3 CT_3 3 (by decide) t_368 rfl (by decide +kernel) nd_Gusts 0 rfl rfl d_Gusts_look_24 ?_
        refine g_heap e24 ?_
        refine g_aload_n C0 0 d_Gusts_look_27 rfl rfl ?_
        refine g_iconst C0 (v := (-1)) d_Gusts_look_28 (by decide) ?_
        obtain ⟨h29, e29, hE⟩ := nm_some hE
        refine g_puti C0 CK_3 CT_3 1 (by decide) t_364 rfl (by decide +kernel) nd_Gusts 0 rfl rfl d_Gusts_look_29 ?_
        refine g_heap e29 ?_
        refine g_aload_n C0 0 d_Gusts_look_32 rfl rfl ?_
        refine g_iconst C0 (v := (-1)) d_Gusts_look_33 (by decide) ?_
        obtain ⟨h34, e34, hE⟩ := nm_some hE
        refine g_puti C0 CK_3 CT_3 2 (by decide) t_366 rfl (by decide +kernel) nd_Gusts 0 rfl rfl d_Gusts_look_34 ?_
        refine g_heap e34 ?_
        refine g_aload_n C0 1 d_Gusts_look_37 rfl rfl ?_
        refine g_getiN C0 CK_7 10 (by decide) t_157 2 rfl rfl d_Gusts_look_38 ?_
        refine g_iconst C0 (v := (-1)) d_Gusts_look_41 (by decide) ?_
        have hB := ite_some hE
        refine g_icmp_eq C0 (tgt := 53) d_Gusts_look_42 (by decide) (fun c_ => ?_) (fun c_ => ?_)
        · replace hE := hB.1 c_
          obtain rfl := Option.some.inj hE
          exact g_vret C0 hr d_Gusts_look_53
        · replace hE := hB.2 c_
          refine g_aload_n C0 1 d_Gusts_look_45 rfl rfl ?_
          refine g_getiN C0 CK_7 8 (by decide) t_149 2 rfl rfl d_Gusts_look_46 ?_
          refine g_iconst C0 (v := (-1)) d_Gusts_look_49 (by decide) ?_
          have hB := ite_some hE
          refine g_icmp_ne C0 (tgt := 54) d_Gusts_look_50 (by decide) (fun c_ => ?_) (fun c_ => ?_)
          · replace hE := hB.2 c_
            refine g_iconst C0 (v := 0) d_Gusts_look_54 (by decide) ?_
            refine g_istore C0 [(4, .int 0), (0, .ref (ad 55)), (1, .ref (ad 10)), (2, .ref (ad 20)), (3, .int c0)] d_Gusts_look_55 (by decide) rfl ?_
            refine g_sub [1, 2, 3, 4, 0] (L' := [(0, .ref (ad 55)), (1, .ref (ad 10)), (2, .ref (ad 20)), (3, .int c0), (4, .int 0)]) rfl ?_
            obtain ⟨t57, z57, hE⟩ := bd_some hE
            refine loopG (fun z_ : Int32 × Hp => K_Gusts_look_L57 N c0 z_.1 z_.2) (fun z_ : Int32 × Hp => G p l e rm_Gusts_look s m args below meth c K A WGusts 6 0 0 _ 57 [(0, .ref (ad 55)), (1, .ref (ad 10)), (2, .ref (ad 20)), (3, .int c0), (4, .int z_.1)] [] ad z_.2) (fun z_ : Hp => G p l e rm_Gusts_look s m args below meth c K A WGusts 6 0 0 _ 95 [(0, .ref (ad 55)), (1, .ref (ad 10)), (2, .ref (ad 20)), (3, .int c0)] [] ad z_) (fun z_ x_ hz k1 k2 => w_Gusts_look_L57 C0 hr N c0 z_.1 z_.2 hz k1 k2) _ _ _ z57 ?_
            try dsimp only
            refine g_iconst C0 (v := 1) d_Gusts_look_95 (by decide) ?_
            refine g_istore C0 [(4, .int 1), (0, .ref (ad 55)), (1, .ref (ad 10)), (2, .ref (ad 20)), (3, .int c0)] d_Gusts_look_96 (by decide) rfl ?_
            refine g_iconst C0 (v := 1) d_Gusts_look_98 (by decide) ?_
            refine g_istore C0 [(5, .int 1), (4, .int 1), (0, .ref (ad 55)), (1, .ref (ad 10)), (2, .ref (ad 20)), (3, .int c0)] d_Gusts_look_99 (by decide) rfl ?_
            refine g_sub [2, 3, 4, 5, 1, 0] (L' := [(0, .ref (ad 55)), (1, .ref (ad 10)), (2, .ref (ad 20)), (3, .int c0), (4, .int 1), (5, .int 1)]) rfl ?_
            obtain ⟨t101, z101, hE⟩ := bd_some hE
            refine loopG (fun z_ : Int32 × Int32 × Hp => K_Gusts_look_L101 N c0 z_.1 z_.2.1 z_.2.2) (fun z_ : Int32 × Int32 × Hp => G p l e rm_Gusts_look s m args below meth c K A WGusts 6 0 0 _ 101 [(0, .ref (ad 55)), (1, .ref (ad 10)), (2, .ref (ad 20)), (3, .int c0), (4, .int z_.1), (5, .int z_.2.1)] [] ad z_.2.2) (fun z_ : Hp => G p l e rm_Gusts_look s m args below meth c K A WGusts 6 0 0 _ 140 [(0, .ref (ad 55)), (2, .ref (ad 20)), (3, .int c0)] [] ad z_) (fun z_ x_ hz k1 k2 => w_Gusts_look_L101 C0 hr N c0 z_.1 z_.2.1 z_.2.2 hz k1 k2) _ _ _ z101 ?_
            try dsimp only
            exact w_Gusts_look_J140 C0 hr N c0 t101 hE
          · replace hE := hB.1 c_
            obtain rfl := Option.some.inj hE
            exact g_vret C0 hr d_Gusts_look_53
      · replace hE := hB.2 c_
        obtain rfl := Option.some.inj hE
        exact g_vret C0 hr d_Gusts_look_21
theorem m_Gusts_look (l : Launch) (K : KT) (ad : Nat → Nat) (h : Hp) (N : Nat) (c0 : Int32) {res : Hp} (hE : K_Gusts_look N c0 h = some res) : ConV l y_Gusts_look prog_5_method_3_code 6 (Option.none : Option Jvm.ClassFile.FieldType) rm_Gusts_look K WGusts ad h [.ref (ad 55), .ref (ad 10), .ref (ad 20), .int c0] res := fun sz =>
  con_start [(0, .ref (ad 55)), (1, .ref (ad 10)), (2, .ref (ad 20)), (3, .int c0)] (by decide +kernel) rfl (Nat.le_of_ble_eq_true rfl) (fun p e s m args below meth c C0 hr hnm hsz => w_Gusts_look C0 hr N c0 h hE)
abbrev y_Lines_addMark : MethodName := ⟨"CanoeSides$Lines", "addMark", "(I)Z"⟩
abbrev rm_Lines_addMark : Room := { frames := 0, cells := 0, slots := 0, locals := 0 }
theorem cd_Lines_addMark : cwd y_Lines_addMark 1 := by decide +kernel
theorem d_Lines_addMark_0 : decode prog_6_method_2_code 0 = .ok (.aload_n 0, 1) := by decide +kernel
theorem d_Lines_addMark_1 : decode prog_6_method_2_code 1 = .ok (.getfield 24, 3) := by decide +kernel
theorem d_Lines_addMark_4 : decode prog_6_method_2_code 4 = .ok (.ifCond .lt 15, 3) := by decide +kernel
theorem d_Lines_addMark_7 : decode prog_6_method_2_code 7 = .ok (.aload_n 0, 1) := by decide +kernel
theorem d_Lines_addMark_8 : decode prog_6_method_2_code 8 = .ok (.getfield 24, 3) := by decide +kernel
theorem d_Lines_addMark_11 : decode prog_6_method_2_code 11 = .ok (.aload_n 0, 1) := by decide +kernel
theorem d_Lines_addMark_12 : decode prog_6_method_2_code 12 = .ok (.getfield 9, 3) := by decide +kernel
theorem d_Lines_addMark_15 : decode prog_6_method_2_code 15 = .ok (.arraylength, 1) := by decide +kernel
theorem d_Lines_addMark_16 : decode prog_6_method_2_code 16 = .ok (.if_icmp .lt 5, 3) := by decide +kernel
theorem d_Lines_addMark_19 : decode prog_6_method_2_code 19 = .ok (.iconst 0, 1) := by decide +kernel
theorem d_Lines_addMark_20 : decode prog_6_method_2_code 20 = .ok (.ireturn, 1) := by decide +kernel
theorem d_Lines_addMark_21 : decode prog_6_method_2_code 21 = .ok (.aload_n 0, 1) := by decide +kernel
theorem d_Lines_addMark_22 : decode prog_6_method_2_code 22 = .ok (.getfield 9, 3) := by decide +kernel
theorem d_Lines_addMark_25 : decode prog_6_method_2_code 25 = .ok (.aload_n 0, 1) := by decide +kernel
theorem d_Lines_addMark_26 : decode prog_6_method_2_code 26 = .ok (.getfield 24, 3) := by decide +kernel
theorem d_Lines_addMark_29 : decode prog_6_method_2_code 29 = .ok (.iload_n 1, 1) := by decide +kernel
theorem d_Lines_addMark_30 : decode prog_6_method_2_code 30 = .ok (.iastore, 1) := by decide +kernel
theorem d_Lines_addMark_31 : decode prog_6_method_2_code 31 = .ok (.aload_n 0, 1) := by decide +kernel
theorem d_Lines_addMark_32 : decode prog_6_method_2_code 32 = .ok (.dup, 1) := by decide +kernel
theorem d_Lines_addMark_33 : decode prog_6_method_2_code 33 = .ok (.getfield 24, 3) := by decide +kernel
theorem d_Lines_addMark_36 : decode prog_6_method_2_code 36 = .ok (.iconst 1, 1) := by decide +kernel
theorem d_Lines_addMark_37 : decode prog_6_method_2_code 37 = .ok (.iadd, 1) := by decide +kernel
theorem d_Lines_addMark_38 : decode prog_6_method_2_code 38 = .ok (.putfield 24, 3) := by decide +kernel
theorem d_Lines_addMark_41 : decode prog_6_method_2_code 41 = .ok (.iconst 1, 1) := by decide +kernel
theorem d_Lines_addMark_42 : decode prog_6_method_2_code 42 = .ok (.ireturn, 1) := by decide +kernel
theorem w_Lines_addMark {p : Program} {l : Launch} {e : Env} {s : State} {m : MethodId} {args : Array Value} {below : List Frame} {meth : Method} {c : Code} {K : KT} {A : Nat → Prop} (C0 : Cx p s m args meth c prog_6_method_2_code "CanoeSides$Lines" 2 K A) (hr : meth.sig.returnType = (Option.some Jvm.ClassFile.FieldType.boolean)) {ad : Nat → Nat} (a0 : Int32) (h : Hp) {res : Int32 × Hp} (hE : K_Lines_addMark a0 h = some res) : G p l e rm_Lines_addMark s m args below meth c K A WLines 2 0 0 (QI s args below K A WLines 0 0 ad res.1 res.2) 0 [(0, .ref (ad 60)), (1, .int a0)] [] ad h := by
  unfold K_Lines_addMark at hE
  refine g_aload_n C0 0 d_Lines_addMark_0 rfl rfl ?_
  refine g_geti C0 CK_4 4 (by decide) t_275 0 rfl rfl d_Lines_addMark_1 ?_
  have hB := ite_some hE
  refine g_if_lt C0 (tgt := 19) d_Lines_addMark_4 (by decide) (fun c_ => ?_) (fun c_ => ?_)
  · replace hE := hB.1 c_
    refine g_iconst C0 (v := 0) d_Lines_addMark_19 (by decide) ?_
    obtain rfl := Option.some.inj hE
    exact g_zret C0 hr nz0 d_Lines_addMark_20
  · replace hE := hB.2 c_
    refine g_aload_n C0 0 d_Lines_addMark_7 rfl rfl ?_
    refine g_geti C0 CK_4 4 (by decide) t_275 0 rfl rfl d_Lines_addMark_8 ?_
    refine g_aload_n C0 0 d_Lines_addMark_11 rfl rfl ?_
    refine g_getr C0 CK_4 0 (by decide) t_271 0 rfl rfl d_Lines_addMark_12 ?_
    refine g_alen C0 1 rfl rfl (v := 4) (by decide) d_Lines_addMark_15 ?_
    have hB := ite_some hE
    refine g_icmp_lt C0 (tgt := 21) d_Lines_addMark_16 (by decide) (fun c_ => ?_) (fun c_ => ?_)
    · replace hE := hB.1 c_
      refine g_aload_n C0 0 d_Lines_addMark_21 rfl rfl ?_
      refine g_getr C0 CK_4 0 (by decide) t_271 0 rfl rfl d_Lines_addMark_22 ?_
      refine g_aload_n C0 0 d_Lines_addMark_25 rfl rfl ?_
      refine g_geti C0 CK_4 4 (by decide) t_275 0 rfl rfl d_Lines_addMark_26 ?_
      refine g_iload_n C0 1 d_Lines_addMark_29 rfl rfl ?_
      obtain ⟨q30, hE⟩ := sA_some hE
      obtain ⟨h30, e30, hE⟩ := nm_some hE
      refine g_iast C0 1 rfl nd_Lines q30 d_Lines_addMark_30 ?_
      refine g_heap e30 ?_
      refine g_aload_n C0 0 d_Lines_addMark_31 rfl rfl ?_
      refine g_dup C0 d_Lines_addMark_32 rfl ?_
      refine g_geti C0 CK_4 4 (by decide) t_275 0 rfl rfl d_Lines_addMark_33 ?_
      refine g_iconst C0 (v := 1) d_Lines_addMark_36 (by decide) ?_
      refine g_iadd C0 d_Lines_addMark_37 ?_
      obtain ⟨h38, e38, hE⟩ := nm_some hE
      refine g_puti C0 CK_4 CT_4 4 (by decide) t_275 rfl (by decide +kernel) nd_Lines 0 rfl rfl d_Lines_addMark_38 ?_
      refine g_heap e38 ?_
      refine g_iconst C0 (v := 1) d_Lines_addMark_41 (by decide) ?_
      obtain rfl := Option.some.inj hE
      exact g_zret C0 hr nz1 d_Lines_addMark_42
    · replace hE := hB.2 c_
      refine g_iconst C0 (v := 0) d_Lines_addMark_19 (by decide) ?_
      obtain rfl := Option.some.inj hE
      exact g_zret C0 hr nz0 d_Lines_addMark_20
theorem m_Lines_addMark (l : Launch) (K : KT) (ad : Nat → Nat) (h : Hp) (a0 : Int32) {res : Int32 × Hp} (hE : K_Lines_addMark a0 h = some res) : ConI l y_Lines_addMark prog_6_method_2_code 2 (Option.some Jvm.ClassFile.FieldType.boolean) rm_Lines_addMark K WLines ad h [.ref (ad 60), .int a0] res.1 res.2 := fun sz =>
  con_start [(0, .ref (ad 60)), (1, .int a0)] (by decide +kernel) rfl (Nat.le_of_ble_eq_true rfl) (fun p e s m args below meth c C0 hr hnm hsz => w_Lines_addMark C0 hr a0 h hE)
abbrev y_Lines_addEntry : MethodName := ⟨"CanoeSides$Lines", "addEntry", "(II)Z"⟩
abbrev rm_Lines_addEntry : Room := { frames := 0, cells := 0, slots := 0, locals := 0 }
theorem cd_Lines_addEntry : cwd y_Lines_addEntry 2 := by decide +kernel
theorem d_Lines_addEntry_0 : decode prog_6_method_3_code 0 = .ok (.aload_n 0, 1) := by decide +kernel
theorem d_Lines_addEntry_1 : decode prog_6_method_3_code 1 = .ok (.getfield 28, 3) := by decide +kernel
theorem d_Lines_addEntry_4 : decode prog_6_method_3_code 4 = .ok (.ifCond .lt 27, 3) := by decide +kernel
theorem d_Lines_addEntry_7 : decode prog_6_method_3_code 7 = .ok (.aload_n 0, 1) := by decide +kernel
theorem d_Lines_addEntry_8 : decode prog_6_method_3_code 8 = .ok (.getfield 28, 3) := by decide +kernel
theorem d_Lines_addEntry_11 : decode prog_6_method_3_code 11 = .ok (.aload_n 0, 1) := by decide +kernel
theorem d_Lines_addEntry_12 : decode prog_6_method_3_code 12 = .ok (.getfield 18, 3) := by decide +kernel
theorem d_Lines_addEntry_15 : decode prog_6_method_3_code 15 = .ok (.arraylength, 1) := by decide +kernel
theorem d_Lines_addEntry_16 : decode prog_6_method_3_code 16 = .ok (.if_icmp .ge 15, 3) := by decide +kernel
theorem d_Lines_addEntry_19 : decode prog_6_method_3_code 19 = .ok (.aload_n 0, 1) := by decide +kernel
theorem d_Lines_addEntry_20 : decode prog_6_method_3_code 20 = .ok (.getfield 28, 3) := by decide +kernel
theorem d_Lines_addEntry_23 : decode prog_6_method_3_code 23 = .ok (.aload_n 0, 1) := by decide +kernel
theorem d_Lines_addEntry_24 : decode prog_6_method_3_code 24 = .ok (.getfield 21, 3) := by decide +kernel
theorem d_Lines_addEntry_27 : decode prog_6_method_3_code 27 = .ok (.arraylength, 1) := by decide +kernel
theorem d_Lines_addEntry_28 : decode prog_6_method_3_code 28 = .ok (.if_icmp .lt 5, 3) := by decide +kernel
theorem d_Lines_addEntry_31 : decode prog_6_method_3_code 31 = .ok (.iconst 0, 1) := by decide +kernel
theorem d_Lines_addEntry_32 : decode prog_6_method_3_code 32 = .ok (.ireturn, 1) := by decide +kernel
theorem d_Lines_addEntry_33 : decode prog_6_method_3_code 33 = .ok (.aload_n 0, 1) := by decide +kernel
theorem d_Lines_addEntry_34 : decode prog_6_method_3_code 34 = .ok (.getfield 18, 3) := by decide +kernel
theorem d_Lines_addEntry_37 : decode prog_6_method_3_code 37 = .ok (.aload_n 0, 1) := by decide +kernel
theorem d_Lines_addEntry_38 : decode prog_6_method_3_code 38 = .ok (.getfield 28, 3) := by decide +kernel
theorem d_Lines_addEntry_41 : decode prog_6_method_3_code 41 = .ok (.iload_n 1, 1) := by decide +kernel
theorem d_Lines_addEntry_42 : decode prog_6_method_3_code 42 = .ok (.iastore, 1) := by decide +kernel
theorem d_Lines_addEntry_43 : decode prog_6_method_3_code 43 = .ok (.aload_n 0, 1) := by decide +kernel
theorem d_Lines_addEntry_44 : decode prog_6_method_3_code 44 = .ok (.getfield 21, 3) := by decide +kernel
theorem d_Lines_addEntry_47 : decode prog_6_method_3_code 47 = .ok (.aload_n 0, 1) := by decide +kernel
theorem d_Lines_addEntry_48 : decode prog_6_method_3_code 48 = .ok (.getfield 28, 3) := by decide +kernel
theorem d_Lines_addEntry_51 : decode prog_6_method_3_code 51 = .ok (.iload_n 2, 1) := by decide +kernel
theorem d_Lines_addEntry_52 : decode prog_6_method_3_code 52 = .ok (.iastore, 1) := by decide +kernel
theorem d_Lines_addEntry_53 : decode prog_6_method_3_code 53 = .ok (.aload_n 0, 1) := by decide +kernel
theorem d_Lines_addEntry_54 : decode prog_6_method_3_code 54 = .ok (.dup, 1) := by decide +kernel
theorem d_Lines_addEntry_55 : decode prog_6_method_3_code 55 = .ok (.getfield 28, 3) := by decide +kernel
theorem d_Lines_addEntry_58 : decode prog_6_method_3_code 58 = .ok (.iconst 1, 1) := by decide +kernel
theorem d_Lines_addEntry_59 : decode prog_6_method_3_code 59 = .ok (.iadd, 1) := by decide +kernel
theorem d_Lines_addEntry_60 : decode prog_6_method_3_code 60 = .ok (.putfield 28, 3) := by decide +kernel
theorem d_Lines_addEntry_63 : decode prog_6_method_3_code 63 = .ok (.iconst 1, 1) := by decide +kernel
theorem d_Lines_addEntry_64 : decode prog_6_method_3_code 64 = .ok (.ireturn, 1) := by decide +kernel
theorem w_Lines_addEntry {p : Program} {l : Launch} {e : Env} {s : State} {m : MethodId} {args : Array Value} {below : List Frame} {meth : Method} {c : Code} {K : KT} {A : Nat → Prop} (C0 : Cx p s m args meth c prog_6_method_3_code "CanoeSides$Lines" 3 K A) (hr : meth.sig.returnType = (Option.some Jvm.ClassFile.FieldType.boolean)) {ad : Nat → Nat} (a0 : Int32) (b0 : Int32) (h : Hp) {res : Int32 × Hp} (hE : K_Lines_addEntry a0 b0 h = some res) : G p l e rm_Lines_addEntry s m args below meth c K A WLines 3 0 0 (QI s args below K A WLines 0 0 ad res.1 res.2) 0 [(0, .ref (ad 60)), (1, .int a0), (2, .int b0)] [] ad h := by
  unfold K_Lines_addEntry at hE
  refine g_aload_n C0 0 d_Lines_addEntry_0 rfl rfl ?_
  refine g_geti C0 CK_4 5 (by decide) t_277 0 rfl rfl d_Lines_addEntry_1 ?_
  have hB := ite_some hE
  refine g_if_lt C0 (tgt := 31) d_Lines_addEntry_4 (by decide) (fun c_ => ?_) (fun c_ => ?_)
  · replace hE := hB.1 c_
    refine g_iconst C0 (v := 0) d_Lines_addEntry_31 (by decide) ?_
    obtain rfl := Option.some.inj hE
    exact g_zret C0 hr nz0 d_Lines_addEntry_32
  · replace hE := hB.2 c_
    refine g_aload_n C0 0 d_Lines_addEntry_7 rfl rfl ?_
    refine g_geti C0 CK_4 5 (by decide) t_277 0 rfl rfl d_Lines_addEntry_8 ?_
    refine g_aload_n C0 0 d_Lines_addEntry_11 rfl rfl ?_
    refine g_getr C0 CK_4 2 (by decide) t_273 0 rfl rfl d_Lines_addEntry_12 ?_
    refine g_alen C0 3 rfl rfl (v := 20) (by decide) d_Lines_addEntry_15 ?_
    have hB := ite_some hE
    refine g_icmp_ge C0 (tgt := 31) d_Lines_addEntry_16 (by decide) (fun c_ => ?_) (fun c_ => ?_)
    · replace hE := hB.1 c_
      refine g_iconst C0 (v := 0) d_Lines_addEntry_31 (by decide) ?_
      obtain rfl := Option.some.inj hE
      exact g_zret C0 hr nz0 d_Lines_addEntry_32
    · replace hE := hB.2 c_
      refine g_aload_n C0 0 d_Lines_addEntry_19 rfl rfl ?_
      refine g_geti C0 CK_4 5 (by decide) t_277 0 rfl rfl d_Lines_addEntry_20 ?_
      refine g_aload_n C0 0 d_Lines_addEntry_23 rfl rfl ?_
      refine g_getr C0 CK_4 3 (by decide) t_274 0 rfl rfl d_Lines_addEntry_24 ?_
      refine g_alen C0 4 rfl rfl (v := 20) (by decide) d_Lines_addEntry_27 ?_
      have hB := ite_some hE
      refine g_icmp_lt C0 (tgt := 33) d_Lines_addEntry_28 (by decide) (fun c_ => ?_) (fun c_ => ?_)
      · replace hE := hB.1 c_
        refine g_aload_n C0 0 d_Lines_addEntry_33 rfl rfl ?_
        refine g_getr C0 CK_4 2 (by decide) t_273 0 rfl rfl d_Lines_addEntry_34 ?_
        refine g_aload_n C0 0 d_Lines_addEntry_37 rfl rfl ?_
        refine g_geti C0 CK_4 5 (by decide) t_277 0 rfl rfl d_Lines_addEntry_38 ?_
        refine g_iload_n C0 1 d_Lines_addEntry_41 rfl rfl ?_
        obtain ⟨q42, hE⟩ := sA_some hE
        obtain ⟨h42, e42, hE⟩ := nm_some hE
        refine g_iast C0 3 rfl nd_Lines q42 d_Lines_addEntry_42 ?_
        refine g_heap e42 ?_
        refine g_aload_n C0 0 d_Lines_addEntry_43 rfl rfl ?_
        refine g_getr C0 CK_4 3 (by decide) t_274 0 rfl rfl d_Lines_addEntry_44 ?_
        refine g_aload_n C0 0 d_Lines_addEntry_47 rfl rfl ?_
        refine g_geti C0 CK_4 5 (by decide) t_277 0 rfl rfl d_Lines_addEntry_48 ?_
        refine g_iload_n C0 2 d_Lines_addEntry_51 rfl rfl ?_
        obtain ⟨q52, hE⟩ := sA_some hE
        obtain ⟨h52, e52, hE⟩ := nm_some hE
        refine g_iast C0 4 rfl nd_Lines q52 d_Lines_addEntry_52 ?_
        refine g_heap e52 ?_
        refine g_aload_n C0 0 d_Lines_addEntry_53 rfl rfl ?_
        refine g_dup C0 d_Lines_addEntry_54 rfl ?_
        refine g_geti C0 CK_4 5 (by decide) t_277 0 rfl rfl d_Lines_addEntry_55 ?_
        refine g_iconst C0 (v := 1) d_Lines_addEntry_58 (by decide) ?_
        refine g_iadd C0 d_Lines_addEntry_59 ?_
        obtain ⟨h60, e60, hE⟩ := nm_some hE
        refine g_puti C0 CK_4 CT_4 5 (by decide) t_277 rfl (by decide +kernel) nd_Lines 0 rfl rfl d_Lines_addEntry_60 ?_
        refine g_heap e60 ?_
        refine g_iconst C0 (v := 1) d_Lines_addEntry_63 (by decide) ?_
        obtain rfl := Option.some.inj hE
        exact g_zret C0 hr nz1 d_Lines_addEntry_64
      · replace hE := hB.2 c_
        refine g_iconst C0 (v := 0) d_Lines_addEntry_31 (by decide) ?_
        obtain rfl := Option.some.inj hE
        exact g_zret C0 hr nz0 d_Lines_addEntry_32
theorem m_Lines_addEntry (l : Launch) (K : KT) (ad : Nat → Nat) (h : Hp) (a0 : Int32) (b0 : Int32) {res : Int32 × Hp} (hE : K_Lines_addEntry a0 b0 h = some res) : ConI l y_Lines_addEntry prog_6_method_3_code 3 (Option.some Jvm.ClassFile.FieldType.boolean) rm_Lines_addEntry K WLines ad h [.ref (ad 60), .int a0, .int b0] res.1 res.2 := fun sz =>
  con_start [(0, .ref (ad 60)), (1, .int a0), (2, .int b0)] (by decide +kernel) rfl (Nat.le_of_ble_eq_true rfl) (fun p e s m args below meth c C0 hr hnm hsz => w_Lines_addEntry C0 hr a0 b0 h hE)
abbrev y_Lines_empty : MethodName := ⟨"CanoeSides$Lines", "empty", "()V"⟩
abbrev rm_Lines_empty : Room := { frames := 0, cells := 0, slots := 0, locals := 0 }
theorem cd_Lines_empty : cwd y_Lines_empty 0 := by decide +kernel
theorem d_Lines_empty_0 : decode prog_6_method_4_code 0 = .ok (.aload_n 0, 1) := by decide +kernel
theorem d_Lines_empty_1 : decode prog_6_method_4_code 1 = .ok (.iconst 0, 1) := by decide +kernel
theorem d_Lines_empty_2 : decode prog_6_method_4_code 2 = .ok (.putfield 24, 3) := by decide +kernel
theorem d_Lines_empty_5 : decode prog_6_method_4_code 5 = .ok (.aload_n 0, 1) := by decide +kernel
theorem d_Lines_empty_6 : decode prog_6_method_4_code 6 = .ok (.iconst 0, 1) := by decide +kernel
theorem d_Lines_empty_7 : decode prog_6_method_4_code 7 = .ok (.putfield 28, 3) := by decide +kernel
theorem d_Lines_empty_10 : decode prog_6_method_4_code 10 = .ok (.return_, 1) := by decide +kernel
theorem w_Lines_empty {p : Program} {l : Launch} {e : Env} {s : State} {m : MethodId} {args : Array Value} {below : List Frame} {meth : Method} {c : Code} {K : KT} {A : Nat → Prop} (C0 : Cx p s m args meth c prog_6_method_4_code "CanoeSides$Lines" 1 K A) (hr : meth.sig.returnType = (Option.none : Option Jvm.ClassFile.FieldType)) {ad : Nat → Nat} (h : Hp) {res : Hp} (hE : K_Lines_empty h = some res) : G p l e rm_Lines_empty s m args below meth c K A WLines 1 0 0 (QV s args below K A WLines 0 0 ad res) 0 [(0, .ref (ad 60))] [] ad h := by
  unfold K_Lines_empty at hE
  refine g_aload_n C0 0 d_Lines_empty_0 rfl rfl ?_
  refine g_iconst C0 (v := 0) d_Lines_empty_1 (by decide) ?_
  obtain ⟨h2, e2, hE⟩ := nm_some hE
  refine g_puti C0 CK_4 CT_4 4 (by decide) t_275 rfl (by decide +kernel) nd_Lines 0 rfl rfl d_Lines_empty_2 ?_
  refine g_heap e2 ?_
  refine g_aload_n C0 0 d_Lines_empty_5 rfl rfl ?_
  refine g_iconst C0 (v := 0) d_Lines_empty_6 (by decide) ?_
  obtain ⟨h7, e7, hE⟩ := nm_some hE
  refine g_puti C0 CK_4 CT_4 5 (by decide) t_277 rfl (by decide +kernel) nd_Lines 0 rfl rfl d_Lines_empty_7 ?_
  refine g_heap e7 ?_
  obtain rfl := Option.some.inj hE
  exact g_vret C0 hr d_Lines_empty_10
theorem m_Lines_empty (l : Launch) (K : KT) (ad : Nat → Nat) (h : Hp) {res : Hp} (hE : K_Lines_empty h = some res) : ConV l y_Lines_empty prog_6_method_4_code 1 (Option.none : Option Jvm.ClassFile.FieldType) rm_Lines_empty K WLines ad h [.ref (ad 60)] res := fun sz =>
  con_start [(0, .ref (ad 60))] (by decide +kernel) rfl (Nat.le_of_ble_eq_true rfl) (fun p e s m args below meth c C0 hr hnm hsz => w_Lines_empty C0 hr h hE)
abbrev y_C_squareOf : MethodName := ⟨"CanoeSides", "squareOf", "(I)I"⟩
abbrev rm_C_squareOf : Room := { frames := 0, cells := 0, slots := 0, locals := 0 }
theorem cd_C_squareOf : cwd y_C_squareOf 1 := by decide +kernel
theorem d_C_squareOf_0 : decode prog_1_method_34_code 0 = .ok (.iload_n 0, 1) := by decide +kernel
theorem d_C_squareOf_1 : decode prog_1_method_34_code 1 = .ok (.sipush 384, 3) := by decide +kernel
theorem d_C_squareOf_4 : decode prog_1_method_34_code 4 = .ok (.irem, 1) := by decide +kernel
theorem d_C_squareOf_5 : decode prog_1_method_34_code 5 = .ok (.bipush 8, 2) := by decide +kernel
theorem d_C_squareOf_7 : decode prog_1_method_34_code 7 = .ok (.idiv, 1) := by decide +kernel
theorem d_C_squareOf_8 : decode prog_1_method_34_code 8 = .ok (.ireturn, 1) := by decide +kernel
theorem w_C_squareOf {p : Program} {l : Launch} {e : Env} {s : State} {m : MethodId} {args : Array Value} {below : List Frame} {meth : Method} {c : Code} {K : KT} {A : Nat → Prop} (C0 : Cx p s m args meth c prog_1_method_34_code "CanoeSides" 1 K A) (hr : meth.sig.returnType = (Option.some Jvm.ClassFile.FieldType.int)) {ad : Nat → Nat} (a0 : Int32) (h : Hp) {res : Int32} (hE : K_C_squareOf a0 = some res) : G p l e rm_C_squareOf s m args below meth c K A WE 1 0 0 (QI s args below K A WE 0 0 ad res h) 0 [(0, .int a0)] [] ad h := by
  unfold K_C_squareOf at hE
  refine g_iload_n C0 0 d_C_squareOf_0 rfl rfl ?_
  refine g_sipush C0 (v := 384) d_C_squareOf_1 (by decide) ?_
  refine g_irem C0 d_C_squareOf_4 (by decide) ?_
  refine g_bipush C0 (v := 8) d_C_squareOf_5 (by decide) ?_
  refine g_idiv C0 d_C_squareOf_7 (by decide) ?_
  obtain rfl := Option.some.inj hE
  exact g_iret C0 hr d_C_squareOf_8
theorem m_C_squareOf (l : Launch) (K : KT) (ad : Nat → Nat) (h : Hp) (a0 : Int32) {res : Int32} (hE : K_C_squareOf a0 = some res) : ConI l y_C_squareOf prog_1_method_34_code 1 (Option.some Jvm.ClassFile.FieldType.int) rm_C_squareOf K WE ad h [.int a0] res h := fun sz =>
  con_start [(0, .int a0)] (by decide +kernel) rfl (Nat.le_of_ble_eq_true rfl) (fun p e s m args below meth c C0 hr hnm hsz => w_C_squareOf C0 hr a0 h hE)
abbrev y_Lines_firstWrong : MethodName := ⟨"CanoeSides$Lines", "firstWrong", "(LCanoeSides$Crew;I)I"⟩
abbrev rm_Lines_firstWrong : Room := { frames := 3, cells := 0, slots := 0, locals := 73 }
theorem cd_Lines_firstWrong : cwd y_Lines_firstWrong 2 := by decide +kernel
theorem d_Lines_firstWrong_0 : decode prog_6_method_5_code 0 = .ok (.iload_n 2, 1) := by decide +kernel
theorem d_Lines_firstWrong_1 : decode prog_6_method_5_code 1 = .ok (.istore_n 3, 1) := by decide +kernel
theorem d_Lines_firstWrong_2 : decode prog_6_method_5_code 2 = .ok (.iconst 0, 1) := by decide +kernel
theorem d_Lines_firstWrong_3 : decode prog_6_method_5_code 3 = .ok (.istore 4, 2) := by decide +kernel
theorem d_Lines_firstWrong_5 : decode prog_6_method_5_code 5 = .ok (.iload 4, 2) := by decide +kernel
theorem d_Lines_firstWrong_7 : decode prog_6_method_5_code 7 = .ok (.aload_n 0, 1) := by decide +kernel
theorem d_Lines_firstWrong_8 : decode prog_6_method_5_code 8 = .ok (.getfield 28, 3) := by decide +kernel
theorem d_Lines_firstWrong_11 : decode prog_6_method_5_code 11 = .ok (.if_icmp .ge 59, 3) := by decide +kernel
theorem d_Lines_firstWrong_14 : decode prog_6_method_5_code 14 = .ok (.iload 4, 2) := by decide +kernel
theorem d_Lines_firstWrong_16 : decode prog_6_method_5_code 16 = .ok (.aload_n 0, 1) := by decide +kernel
theorem d_Lines_firstWrong_17 : decode prog_6_method_5_code 17 = .ok (.getfield 18, 3) := by decide +kernel
theorem d_Lines_firstWrong_20 : decode prog_6_method_5_code 20 = .ok (.arraylength, 1) := by decide +kernel
theorem d_Lines_firstWrong_21 : decode prog_6_method_5_code 21 = .ok (.if_icmp .ge 49, 3) := by decide +kernel
theorem d_Lines_firstWrong_24 : decode prog_6_method_5_code 24 = .ok (.iload 4, 2) := by decide +kernel
theorem d_Lines_firstWrong_26 : decode prog_6_method_5_code 26 = .ok (.aload_n 0, 1) := by decide +kernel
theorem d_Lines_firstWrong_27 : decode prog_6_method_5_code 27 = .ok (.getfield 21, 3) := by decide +kernel
theorem d_Lines_firstWrong_30 : decode prog_6_method_5_code 30 = .ok (.arraylength, 1) := by decide +kernel
theorem d_Lines_firstWrong_31 : decode prog_6_method_5_code 31 = .ok (.if_icmp .ge 39, 3) := by decide +kernel
theorem d_Lines_firstWrong_34 : decode prog_6_method_5_code 34 = .ok (.aload_n 1, 1) := by decide +kernel
theorem d_Lines_firstWrong_35 : decode prog_6_method_5_code 35 = .ok (.iload_n 3, 1) := by decide +kernel
theorem d_Lines_firstWrong_36 : decode prog_6_method_5_code 36 = .ok (.aload_n 0, 1) := by decide +kernel
theorem d_Lines_firstWrong_37 : decode prog_6_method_5_code 37 = .ok (.getfield 18, 3) := by decide +kernel
theorem d_Lines_firstWrong_40 : decode prog_6_method_5_code 40 = .ok (.iload 4, 2) := by decide +kernel
theorem d_Lines_firstWrong_42 : decode prog_6_method_5_code 42 = .ok (.iaload, 1) := by decide +kernel
theorem d_Lines_firstWrong_43 : decode prog_6_method_5_code 43 = .ok (.invokevirtual 31, 3) := by decide +kernel
theorem d_Lines_firstWrong_46 : decode prog_6_method_5_code 46 = .ok (.istore_n 3, 1) := by decide +kernel
theorem d_Lines_firstWrong_47 : decode prog_6_method_5_code 47 = .ok (.iload_n 3, 1) := by decide +kernel
theorem d_Lines_firstWrong_48 : decode prog_6_method_5_code 48 = .ok (.invokestatic 37, 3) := by decide +kernel
theorem d_Lines_firstWrong_51 : decode prog_6_method_5_code 51 = .ok (.aload_n 0, 1) := by decide +kernel
theorem d_Lines_firstWrong_52 : decode prog_6_method_5_code 52 = .ok (.getfield 21, 3) := by decide +kernel
theorem d_Lines_firstWrong_55 : decode prog_6_method_5_code 55 = .ok (.iload 4, 2) := by decide +kernel
theorem d_Lines_firstWrong_57 : decode prog_6_method_5_code 57 = .ok (.iaload, 1) := by decide +kernel
theorem d_Lines_firstWrong_58 : decode prog_6_method_5_code 58 = .ok (.if_icmp .eq 6, 3) := by decide +kernel
theorem d_Lines_firstWrong_61 : decode prog_6_method_5_code 61 = .ok (.iload 4, 2) := by decide +kernel
theorem d_Lines_firstWrong_63 : decode prog_6_method_5_code 63 = .ok (.ireturn, 1) := by decide +kernel
theorem d_Lines_firstWrong_64 : decode prog_6_method_5_code 64 = .ok (.iinc 4 1, 3) := by decide +kernel
theorem d_Lines_firstWrong_67 : decode prog_6_method_5_code 67 = .ok (.goto (-62), 3) := by decide +kernel
theorem d_Lines_firstWrong_70 : decode prog_6_method_5_code 70 = .ok (.iconst (-1), 1) := by decide +kernel
theorem d_Lines_firstWrong_71 : decode prog_6_method_5_code 71 = .ok (.ireturn, 1) := by decide +kernel
theorem w_Lines_firstWrong_L5 {p : Program} {l : Launch} {e : Env} {s : State} {m : MethodId} {args : Array Value} {below : List Frame} {meth : Method} {c : Code} {K : KT} {A : Nat → Prop} {Q : State → Prop} (C0 : Cx p s m args meth c prog_6_method_5_code "CanoeSides$Lines" 5 K A) (hr : meth.sig.returnType = (Option.some Jvm.ClassFile.FieldType.int)) {ad : Nat → Nat} (N : Nat) (x3 : Int32) (x4 : Int32) (h : Hp) {x_ : (Int32 × Int32) ⊕ (Int32) ⊕ (Unit)} (hE : K_Lines_firstWrong_L5 N x3 x4 h = some x_) (hk1 : ∀ z_, x_ = .inl z_ → G p l e rm_Lines_firstWrong s m args below meth c K A WLines 5 0 0 Q 5 [(0, .ref (ad 60)), (1, .ref (ad 20)), (3, .int z_.1), (4, .int z_.2)] [] ad h) (hk2 : ∀ r_, x_ = .inr (.inl r_) → Q = (QI s args below K A WLines 0 0 ad r_ h)) (hk3 : ∀ z_, x_ = .inr (.inr z_) → G p l e rm_Lines_firstWrong s m args below meth c K A WLines 5 0 0 Q 70 [] [] ad h) : G p l e rm_Lines_firstWrong s m args below meth c K A WLines 5 0 0 Q 5 [(0, .ref (ad 60)), (1, .ref (ad 20)), (3, .int x3), (4, .int x4)] [] ad h := by
  unfold K_Lines_firstWrong_L5 at hE
  refine g_iload C0 3 d_Lines_firstWrong_5 rfl ?_
  refine g_aload_n C0 0 d_Lines_firstWrong_7 rfl rfl ?_
  refine g_geti C0 CK_4 5 (by decide) t_277 0 rfl rfl d_Lines_firstWrong_8 ?_
  have hB := ite_some hE
  refine g_icmp_ge C0 (tgt := 70) d_Lines_firstWrong_11 (by decide) (fun c_ => ?_) (fun c_ => ?_)
  · replace hE := hB.1 c_
    refine g_sub [] (L' := []) rfl ?_
    exact hk3 _ (Option.some.inj hE).symm
  · replace hE := hB.2 c_
    refine g_iload C0 3 d_Lines_firstWrong_14 rfl ?_
    refine g_aload_n C0 0 d_Lines_firstWrong_16 rfl rfl ?_
    refine g_getr C0 CK_4 2 (by decide) t_273 0 rfl rfl d_Lines_firstWrong_17 ?_
    refine g_alen C0 3 rfl rfl (v := 20) (by decide) d_Lines_firstWrong_20 ?_
    have hB := ite_some hE
    refine g_icmp_ge C0 (tgt := 70) d_Lines_firstWrong_21 (by decide) (fun c_ => ?_) (fun c_ => ?_)
    · replace hE := hB.1 c_
      refine g_sub [] (L' := []) rfl ?_
      exact hk3 _ (Option.some.inj hE).symm
    · replace hE := hB.2 c_
      refine g_iload C0 3 d_Lines_firstWrong_24 rfl ?_
      refine g_aload_n C0 0 d_Lines_firstWrong_26 rfl rfl ?_
      refine g_getr C0 CK_4 3 (by decide) t_274 0 rfl rfl d_Lines_firstWrong_27 ?_
      refine g_alen C0 4 rfl rfl (v := 20) (by decide) d_Lines_firstWrong_30 ?_
      have hB := ite_some hE
      refine g_icmp_ge C0 (tgt := 70) d_Lines_firstWrong_31 (by decide) (fun c_ => ?_) (fun c_ => ?_)
      · replace hE := hB.1 c_
        refine g_sub [] (L' := []) rfl ?_
        exact hk3 _ (Option.some.inj hE).symm
      · replace hE := hB.2 c_
        refine g_aload_n C0 1 d_Lines_firstWrong_34 rfl rfl ?_
        refine g_iload_n C0 2 d_Lines_firstWrong_35 rfl rfl ?_
        refine g_aload_n C0 0 d_Lines_firstWrong_36 rfl rfl ?_
        refine g_getr C0 CK_4 2 (by decide) t_273 0 rfl rfl d_Lines_firstWrong_37 ?_
        refine g_iload C0 3 d_Lines_firstWrong_40 rfl ?_
        obtain ⟨q42, v42, e42, hE⟩ := gA_some hE
        refine g_iald C0 3 rfl q42 d_Lines_firstWrong_42 ?_
        refine g_top e42 ?_
        obtain ⟨v43, z43, hE⟩ := bd_some hE
        refine g_calliP C0 nd_Lines [20, 21, 22, 15, 16, 17] rfl (sb_Crew_Lines) (runV C0 (m_Crew_after l K ad h x3 v42 z43) 2 rfl ⟨t_1015, t_773, t_774, t_89, t_775⟩ cd_Crew_after (by decide) 5 rfl rfl (sb_Crew_Lines) nd_Crew rfl rfl (Nat.le_of_ble_eq_true rfl) d_Lines_firstWrong_43) ?_
        refine g_istore_n C0 [(3, .int v43), (0, .ref (ad 60)), (1, .ref (ad 20)), (4, .int x4)] d_Lines_firstWrong_46 rfl (by decide) rfl ?_
        refine g_iload_n C0 0 d_Lines_firstWrong_47 rfl rfl ?_
        obtain ⟨v48, z48, hE⟩ := bd_some hE
        refine g_calliP C0 nd_Lines [] rfl (sb_E_Lines) (runSN C0 (m_C_squareOf l K ad h v43 z48) 1 ⟨t_1013, t_806, t_85, t_807⟩ cd_C_squareOf (by decide) (sb_E_Lines) nd_E rfl rfl (Nat.le_of_ble_eq_true rfl) d_Lines_firstWrong_48) ?_
        refine g_aload_n C0 1 d_Lines_firstWrong_51 rfl rfl ?_
        refine g_getr C0 CK_4 3 (by decide) t_274 0 rfl rfl d_Lines_firstWrong_52 ?_
        refine g_iload C0 3 d_Lines_firstWrong_55 rfl ?_
        obtain ⟨q57, v57, e57, hE⟩ := gA_some hE
        refine g_iald C0 4 rfl q57 d_Lines_firstWrong_57 ?_
        refine g_top e57 ?_
        have hB := ite_some hE
        refine g_icmp_eq C0 (tgt := 64) d_Lines_firstWrong_58 (by decide) (fun c_ => ?_) (fun c_ => ?_)
        · replace hE := hB.1 c_
          obtain ⟨v64, e64, hE⟩ := nm_some hE
          refine g_iinc C0 3 [(4, .int v64), (3, .int v43), (0, .ref (ad 60)), (1, .ref (ad 20))] d_Lines_firstWrong_64 rfl (by rw [e64]; rfl) (by decide) rfl ?_
          refine g_goto C0 (tgt := 5) d_Lines_firstWrong_67 (by decide) ?_
          refine g_sub [2, 3, 1, 0] (L' := [(0, .ref (ad 60)), (1, .ref (ad 20)), (3, .int v43), (4, .int v64)]) rfl ?_
          exact hk1 _ (Option.some.inj hE).symm
        · replace hE := hB.2 c_
          refine g_iload C0 3 d_Lines_firstWrong_61 rfl ?_
          have hq := hk2 _ (Option.some.inj hE).symm
          rw [hq]
          exact g_iret C0 hr d_Lines_firstWrong_63
theorem w_Lines_firstWrong {p : Program} {l : Launch} {e : Env} {s : State} {m : MethodId} {args : Array Value} {below : List Frame} {meth : Method} {c : Code} {K : KT} {A : Nat → Prop} (C0 : Cx p s m args meth c prog_6_method_5_code "CanoeSides$Lines" 5 K A) (hr : meth.sig.returnType = (Option.some Jvm.ClassFile.FieldType.int)) {ad : Nat → Nat} (N : Nat) (b0 : Int32) (h : Hp) {res : Int32} (hE : K_Lines_firstWrong N b0 h = some res) : G p l e rm_Lines_firstWrong s m args below meth c K A WLines 5 0 0 (QI s args below K A WLines 0 0 ad res h) 0 [(0, .ref (ad 60)), (1, .ref (ad 20)), (2, .int b0)] [] ad h := by
  unfold K_Lines_firstWrong at hE
  refine g_iload_n C0 2 d_Lines_firstWrong_0 rfl rfl ?_
  refine g_istore_n C0 [(3, .int b0), (0, .ref (ad 60)), (1, .ref (ad 20)), (2, .int b0)] d_Lines_firstWrong_1 rfl (by decide) rfl ?_
  refine g_iconst C0 (v := 0) d_Lines_firstWrong_2 (by decide) ?_
  refine g_istore C0 [(4, .int 0), (3, .int b0), (0, .ref (ad 60)), (1, .ref (ad 20)), (2, .int b0)] d_Lines_firstWrong_3 (by decide) rfl ?_
  refine g_sub [2, 3, 1, 0] (L' := [(0, .ref (ad 60)), (1, .ref (ad 20)), (3, .int b0), (4, .int 0)]) rfl ?_
  obtain ⟨t5, z5, hE⟩ := bd_some hE
  refine loopG (fun z_ : Int32 × Int32 => K_Lines_firstWrong_L5 N z_.1 z_.2 h) (fun z_ : Int32 × Int32 => G p l e rm_Lines_firstWrong s m args below meth c K A WLines 5 0 0 _ 5 [(0, .ref (ad 60)), (1, .ref (ad 20)), (3, .int z_.1), (4, .int z_.2)] [] ad h) (fun z_ : (Int32) ⊕ (Unit) => (∀ r_, z_ = .inl r_ → _ = (QI s args below K A WLines 0 0 ad r_ h)) ∧ (∀ y_, z_ = .inr y_ → G p l e rm_Lines_firstWrong s m args below meth c K A WLines 5 0 0 _ 70 [] [] ad h)) (fun z_ x_ hz k1 k2 => w_Lines_firstWrong_L5 C0 hr N z_.1 z_.2 h hz k1 (fun r_ hr_ => (k2 _ hr_).1 _ rfl) (fun y_ hy_ => (k2 _ hy_).2 _ rfl)) _ _ _ z5 ?_
  refine ⟨fun r_ e_ => ?_, fun t5x e_ => ?_⟩
  · subst e_
    replace hE := el_inl hE
    exact Option.some.inj hE ▸ rfl
  · subst e_
    replace hE := el_inr hE
    try dsimp only
    refine g_iconst C0 (v := (-1)) d_Lines_firstWrong_70 (by decide) ?_
    obtain rfl := Option.some.inj hE
    exact g_iret C0 hr d_Lines_firstWrong_71
theorem m_Lines_firstWrong (l : Launch) (K : KT) (ad : Nat → Nat) (h : Hp) (N : Nat) (b0 : Int32) {res : Int32} (hE : K_Lines_firstWrong N b0 h = some res) : ConI l y_Lines_firstWrong prog_6_method_5_code 5 (Option.some Jvm.ClassFile.FieldType.int) rm_Lines_firstWrong K WLines ad h [.ref (ad 60), .ref (ad 20), .int b0] res h := fun sz =>
  con_start [(0, .ref (ad 60)), (1, .ref (ad 20)), (2, .int b0)] (by decide +kernel) rfl (Nat.le_of_ble_eq_true rfl) (fun p e s m args below meth c C0 hr hnm hsz => w_Lines_firstWrong C0 hr N b0 h hE)
