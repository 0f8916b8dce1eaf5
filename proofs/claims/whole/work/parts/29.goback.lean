/-! goBack, half by program -/
theorem t_1071 : (Jvm.Cond.methodLink "CanoeSides" (279 : Nat) ({ cls := "CanoeSides$Boat", name := "become", desc := "(LCanoeSides$Boat;)V" } : Jvm.MethodName)) ∈ TB := tb_of 1071 (by decide +kernel) rfl
theorem t_1072 : (Jvm.Cond.instanceMethod ({ cls := "CanoeSides$Boat", name := "become", desc := "(LCanoeSides$Boat;)V" } : Jvm.MethodName)) ∈ TB := tb_of 1072 (by decide +kernel) rfl
theorem t_1073 : (Jvm.Cond.selects "CanoeSides$Boat" ({ cls := "CanoeSides$Boat", name := "become", desc := "(LCanoeSides$Boat;)V" } : Jvm.MethodName) ({ cls := "CanoeSides$Boat", name := "become", desc := "(LCanoeSides$Boat;)V" } : Jvm.MethodName)) ∈ TB := tb_of 1073 (by decide +kernel) rfl
theorem t_1074 : (Jvm.Cond.code ({ cls := "CanoeSides$Boat", name := "become", desc := "(LCanoeSides$Boat;)V" } : Jvm.MethodName) prog_2_method_2_code (2 : Nat) (Option.none : Option Jvm.ClassFile.FieldType)) ∈ TB := tb_of 1074 (by decide +kernel) rfl
abbrev WBoats2 : Wl := [(30, .inl (0, [none, none, none])), (32, .inl (0, [none, none, none]))]
theorem nd_Boats2 : nd WBoats2 = true := by decide +kernel
abbrev WC00 : Wl := [(0, .inl (10, [some (some 2), none, none, some (some 10), some (some 15), some (some 20), some (some 25), some (some 30), some (some 33), some (some 35), some (some 60), some (some 40), some (some 45), some (some 55)])), (2, .inr (.inl (0, 250))), (10, .inl (7, [none, none, some (some 11), none, none, none, none, none, none, none, none, none, some (some 12)])), (11, .inr (.inl (0, 48))), (12, .inr (.inl (0, 8))), (15, .inl (9, [some (some 16), some (some 17), none])), (16, .inr (.inl (0, 1920))), (17, .inr (.inl (0, 48))), (20, .inl (2, [some (some 15), some (some 21), some (some 22)])), (21, .inr (.inl (0, 16))), (22, .inr (.inl (0, 16))), (25, .inl (2, [some (some 15), some (some 26), some (some 27)])), (26, .inr (.inl (0, 16))), (27, .inr (.inl (0, 16))), (30, .inl (0, [none, none, none])), (33, .inr (.inr (2, 31))), (35, .inl (5, [some (some 36), none, none])), (36, .inr (.inl (0, 50))), (40, .inl (8, [some (some 41), some (some 42), some (some 43), none, none, none, none])), (41, .inr (.inl (0, 3456))), (42, .inr (.inl (0, 3456))), (43, .inr (.inl (0, 60))), (45, .inl (1, [some (some 46), some (some 47), some (some 48), some (some 49), none, none, none, none, none])), (46, .inr (.inl (0, 3456))), (47, .inr (.inl (0, 3456))), (48, .inr (.inl (0, 3456))), (49, .inr (.inl (0, 3456))), (55, .inl (3, [some (some 56), none, none, none])), (56, .inr (.inl (0, 384))), (60, .inl (4, [some (some 61), some (some 62), some (some 63), some (some 64), none, none])), (61, .inr (.inl (0, 4))), (62, .inr (.inl (0, 40))), (63, .inr (.inl (0, 20))), (64, .inr (.inl (0, 20)))]
theorem nd_C00 : nd WC00 = true := by decide +kernel
abbrev WC01 : Wl := [(0, .inl (10, [some (some 2), none, none, some (some 10), some (some 15), some (some 20), some (some 25), some (some 30), some (some 33), some (some 35), some (some 60), some (some 40), some (some 45), some (some 55)])), (2, .inr (.inl (0, 250))), (10, .inl (7, [none, none, some (some 11), none, none, none, none, none, none, none, none, none, some (some 12)])), (11, .inr (.inl (0, 48))), (12, .inr (.inl (0, 8))), (15, .inl (9, [some (some 16), some (some 17), none])), (16, .inr (.inl (0, 1920))), (17, .inr (.inl (0, 48))), (20, .inl (2, [some (some 15), some (some 21), some (some 22)])), (21, .inr (.inl (0, 16))), (22, .inr (.inl (0, 16))), (25, .inl (2, [some (some 15), some (some 26), some (some 27)])), (26, .inr (.inl (0, 16))), (27, .inr (.inl (0, 16))), (30, .inl (0, [none, none, none])), (33, .inr (.inr (2, 31))), (35, .inl (5, [some (some 36), none, none])), (36, .inr (.inl (0, 50))), (40, .inl (8, [some (some 41), some (some 42), some (some 43), none, none, none, none])), (41, .inr (.inl (0, 3456))), (42, .inr (.inl (0, 3456))), (43, .inr (.inl (0, 60))), (45, .inl (1, [some (some 46), some (some 47), some (some 48), some (some 49), none, none, none, none, none])), (46, .inr (.inl (0, 3456))), (47, .inr (.inl (0, 3456))), (48, .inr (.inl (0, 3456))), (49, .inr (.inl (0, 3456))), (55, .inl (3, [some (some 56), none, none, none])), (56, .inr (.inl (0, 384))), (60, .inl (4, [some (some 61), some (some 62), some (some 63), some (some 64), none, none])), (61, .inr (.inl (0, 4))), (62, .inr (.inl (0, 40))), (63, .inr (.inl (0, 20))), (64, .inr (.inl (0, 20))), (32, .inl (0, [none, none, none]))]
theorem nd_C01 : nd WC01 = true := by decide +kernel
abbrev WC10 : Wl := [(0, .inl (10, [some (some 2), none, none, some (some 10), some (some 15), some (some 20), some (some 25), some (some 30), some (some 33), some (some 35), some (some 60), some (some 40), some (some 45), some (some 55)])), (2, .inr (.inl (0, 250))), (10, .inl (7, [none, none, some (some 11), none, none, none, none, none, none, none, none, none, some (some 12)])), (11, .inr (.inl (0, 48))), (12, .inr (.inl (0, 8))), (15, .inl (9, [some (some 16), some (some 17), none])), (16, .inr (.inl (0, 1920))), (17, .inr (.inl (0, 48))), (20, .inl (2, [some (some 15), some (some 21), some (some 22)])), (21, .inr (.inl (0, 16))), (22, .inr (.inl (0, 16))), (25, .inl (2, [some (some 15), some (some 26), some (some 27)])), (26, .inr (.inl (0, 16))), (27, .inr (.inl (0, 16))), (30, .inl (0, [none, none, none])), (33, .inr (.inr (2, 31))), (35, .inl (5, [some (some 36), none, none])), (36, .inr (.inl (0, 50))), (40, .inl (8, [some (some 41), some (some 42), some (some 43), none, none, none, none])), (41, .inr (.inl (0, 3456))), (42, .inr (.inl (0, 3456))), (43, .inr (.inl (0, 60))), (45, .inl (1, [some (some 46), some (some 47), some (some 48), some (some 49), none, none, none, none, none])), (46, .inr (.inl (0, 3456))), (47, .inr (.inl (0, 3456))), (48, .inr (.inl (0, 3456))), (49, .inr (.inl (0, 3456))), (55, .inl (3, [some (some 56), none, none, none])), (56, .inr (.inl (0, 384))), (60, .inl (4, [some (some 61), some (some 62), some (some 63), some (some 64), none, none])), (61, .inr (.inl (0, 4))), (62, .inr (.inl (0, 40))), (63, .inr (.inl (0, 20))), (64, .inr (.inl (0, 20))), (31, .inl (0, [none, none, none]))]
theorem nd_C10 : nd WC10 = true := by decide +kernel
abbrev WC11 : Wl := [(0, .inl (10, [some (some 2), none, none, some (some 10), some (some 15), some (some 20), some (some 25), some (some 30), some (some 33), some (some 35), some (some 60), some (some 40), some (some 45), some (some 55)])), (2, .inr (.inl (0, 250))), (10, .inl (7, [none, none, some (some 11), none, none, none, none, none, none, none, none, none, some (some 12)])), (11, .inr (.inl (0, 48))), (12, .inr (.inl (0, 8))), (15, .inl (9, [some (some 16), some (some 17), none])), (16, .inr (.inl (0, 1920))), (17, .inr (.inl (0, 48))), (20, .inl (2, [some (some 15), some (some 21), some (some 22)])), (21, .inr (.inl (0, 16))), (22, .inr (.inl (0, 16))), (25, .inl (2, [some (some 15), some (some 26), some (some 27)])), (26, .inr (.inl (0, 16))), (27, .inr (.inl (0, 16))), (30, .inl (0, [none, none, none])), (33, .inr (.inr (2, 31))), (35, .inl (5, [some (some 36), none, none])), (36, .inr (.inl (0, 50))), (40, .inl (8, [some (some 41), some (some 42), some (some 43), none, none, none, none])), (41, .inr (.inl (0, 3456))), (42, .inr (.inl (0, 3456))), (43, .inr (.inl (0, 60))), (45, .inl (1, [some (some 46), some (some 47), some (some 48), some (some 49), none, none, none, none, none])), (46, .inr (.inl (0, 3456))), (47, .inr (.inl (0, 3456))), (48, .inr (.inl (0, 3456))), (49, .inr (.inl (0, 3456))), (55, .inl (3, [some (some 56), none, none, none])), (56, .inr (.inl (0, 384))), (60, .inl (4, [some (some 61), some (some 62), some (some 63), some (some 64), none, none])), (61, .inr (.inl (0, 4))), (62, .inr (.inl (0, 40))), (63, .inr (.inl (0, 20))), (64, .inr (.inl (0, 20))), (31, .inl (0, [none, none, none])), (32, .inl (0, [none, none, none]))]
theorem nd_C11 : nd WC11 = true := by decide +kernel
theorem sb_Boats_C10 : subW WBoats WC10 = true := by decide +kernel
theorem sb_Boats_C11 : subW WBoats WC11 = true := by decide +kernel
theorem sb_Boats2_C01 : subW WBoats2 WC01 = true := by decide +kernel
theorem sb_Boats2_C11 : subW WBoats2 WC11 = true := by decide +kernel
theorem sb_E_C00 : subW WE WC00 = true := by decide +kernel
theorem sb_E_C01 : subW WE WC01 = true := by decide +kernel
theorem sb_E_C10 : subW WE WC10 = true := by decide +kernel
theorem sb_E_C11 : subW WE WC11 = true := by decide +kernel
theorem sb_Log_C01 : subW WLog WC01 = true := by decide +kernel
theorem sb_Log_C10 : subW WLog WC10 = true := by decide +kernel
theorem sb_Log_C11 : subW WLog WC11 = true := by decide +kernel
section NN
variable {p : Program} {l : Launch} {e : Env} {R : Room} {s : State} {m : MethodId} {args : Array Value} {below : List Frame} {meth : Method} {c : Code} {K : KT} {A : Nat → Prop} {rs : Wl} {nL cells slots : Nat} {Q : State → Prop} {pc : Nat} {L : List (Nat × Value)} {st : List Value} {ad : Nat → Nat} {h : Hp} {cc : ByteArray} {own : String}
theorem g_astoreN_n (C0 : Cx p s m args meth c cc own nL K A) {kk : Fin 4} {i : Nat} (L' : List (Nat × Value)) (hdg : decode cc pc = .ok (.astore_n kk, 1)) (hi : (kk : Nat) = i) (hn : i < nL) (hl : (i, Value.null) :: L.filter (fun q => !(q.1 == i) && !(q.1 + 1 == i && q.2.category == 2)) = L')
    (k : G p l e R s m args below meth c K A rs nL cells slots Q (pc + 1) L' st ad h) : G p l e R s m args below meth c K A rs nL cells slots Q pc L (.null :: st) ad h := fun H locs ls h1 h2 h3 h4 => lv_astore_nN C0.1 C0.2.1 hdg hi h4 hn hl (fun ls' h5 => k H locs ls' h1 h2 h3 h5)
theorem g_aloadN_n (C0 : Cx p s m args meth c cc own nL K A) (j : Nat) {kk : Fin 4} {i : Nat} (hdg : decode cc pc = .ok (.aload_n kk, 1)) (hj : L[j]? = some (i, .null)) (hi : (kk : Nat) = i)
    (k : G p l e R s m args below meth c K A rs nL cells slots Q (pc + 1) L (.null :: st) ad h) : G p l e R s m args below meth c K A rs nL cells slots Q pc L st ad h := fun H locs ls h1 h2 h3 h4 => lv_aload_nN C0.1 C0.2.1 hdg hi (lv_at h4 j hj) (k H locs ls h1 h2 h3 h4)
theorem g_ifnonnullN (C0 : Cx p s m args meth c cc own nL K A) {off : Int} (hdg : decode cc pc = .ok (.ifnonnull off, 3))
    (k : G p l e R s m args below meth c K A rs nL cells slots Q (pc + 3) L st ad h) : G p l e R s m args below meth c K A rs nL cells slots Q pc L (.null :: st) ad h := fun H locs ls h1 h2 h3 h4 => lv_ifnonnullN C0.1 C0.2.1 hdg (k H locs ls h1 h2 h3 h4)
theorem g_ifnonnull (C0 : Cx p s m args meth c cc own nL K A) {x : Nat} {off : Int} {tgt : Nat} (hdg : decode cc pc = .ok (.ifnonnull off, 3)) (ht : (pc : Int) + off = (tgt : Int))
    (k : G p l e R s m args below meth c K A rs nL cells slots Q tgt L st ad h) : G p l e R s m args below meth c K A rs nL cells slots Q pc L (.ref x :: st) ad h := fun H locs ls h1 h2 h3 h4 => lv_ifnonnull C0.1 C0.2.1 hdg ht (k H locs ls h1 h2 h3 h4)
end NN
def K_Boat_become2 (h : Hp) : Option (Hp) :=
  nm (hset h 30 0 (h 32 0)) <| fun h5 => nm (hset h5 30 1 (h5 32 1)) <| fun h13 => nm (hset h13 30 2 (h13 32 2)) <| fun h21 => some h21
abbrev y_Boat_become2 : MethodName := ⟨"CanoeSides$Boat", "become", "(LCanoeSides$Boat;)V"⟩
abbrev rm_Boat_become2 : Room := { frames := 0, cells := 0, slots := 0, locals := 0 }
theorem cd_Boat_become2 : cwd y_Boat_become2 1 := by decide +kernel
theorem d_Boat_become2_0 : decode prog_2_method_2_code 0 = .ok (.aload_n 0, 1) := by decide +kernel
theorem d_Boat_become2_1 : decode prog_2_method_2_code 1 = .ok (.aload_n 1, 1) := by decide +kernel
theorem d_Boat_become2_2 : decode prog_2_method_2_code 2 = .ok (.getfield 9, 3) := by decide +kernel
theorem d_Boat_become2_5 : decode prog_2_method_2_code 5 = .ok (.putfield 9, 3) := by decide +kernel
theorem d_Boat_become2_8 : decode prog_2_method_2_code 8 = .ok (.aload_n 0, 1) := by decide +kernel
theorem d_Boat_become2_9 : decode prog_2_method_2_code 9 = .ok (.aload_n 1, 1) := by decide +kernel
theorem d_Boat_become2_10 : decode prog_2_method_2_code 10 = .ok (.getfield 15, 3) := by decide +kernel
theorem d_Boat_become2_13 : decode prog_2_method_2_code 13 = .ok (.putfield 15, 3) := by decide +kernel
theorem d_Boat_become2_16 : decode prog_2_method_2_code 16 = .ok (.aload_n 0, 1) := by decide +kernel
theorem d_Boat_become2_17 : decode prog_2_method_2_code 17 = .ok (.aload_n 1, 1) := by decide +kernel
theorem d_Boat_become2_18 : decode prog_2_method_2_code 18 = .ok (.getfield 18, 3) := by decide +kernel
theorem d_Boat_become2_21 : decode prog_2_method_2_code 21 = .ok (.putfield 18, 3) := by decide +kernel
theorem d_Boat_become2_24 : decode prog_2_method_2_code 24 = .ok (.return_, 1) := by decide +kernel
theorem w_Boat_become2 {p : Program} {l : Launch} {e : Env} {s : State} {m : MethodId} {args : Array Value} {below : List Frame} {meth : Method} {c : Code} {K : KT} {A : Nat → Prop} (C0 : Cx p s m args meth c prog_2_method_2_code "CanoeSides$Boat" 2 K A) (hr : meth.sig.returnType = (Option.none : Option Jvm.ClassFile.FieldType)) {ad : Nat → Nat} (h : Hp) {res : Hp} (hE : K_Boat_become2 h = some res) : G p l e rm_Boat_become2 s m args below meth c K A WBoats2 2 0 0 (QV s args below K A WBoats2 0 0 ad res) 0 [(0, .ref (ad 30)), (1, .ref (ad 32))] [] ad h := by
  unfold K_Boat_become2 at hE
  refine g_aload_n C0 0 d_Boat_become2_0 rfl rfl ?_
  refine g_aload_n C0 1 d_Boat_become2_1 rfl rfl ?_
  refine g_geti C0 CK_0 0 (by decide) t_234 1 rfl rfl d_Boat_become2_2 ?_
  obtain ⟨h5, e5, hE⟩ := nm_some hE
  refine g_puti C0 CK_0 CT_0 0 (by decide) t_234 rfl (by decide +kernel) nd_Boats2 0 rfl rfl d_Boat_become2_5 ?_
  refine g_heap e5 ?_
  refine g_aload_n C0 0 d_Boat_become2_8 rfl rfl ?_
  refine g_aload_n C0 1 d_Boat_become2_9 rfl rfl ?_
  refine g_geti C0 CK_0 1 (by decide) t_236 1 rfl rfl d_Boat_become2_10 ?_
  obtain ⟨h13, e13, hE⟩ := nm_some hE
  refine g_puti C0 CK_0 CT_0 1 (by decide) t_236 rfl (by decide +kernel) nd_Boats2 0 rfl rfl d_Boat_become2_13 ?_
  refine g_heap e13 ?_
  refine g_aload_n C0 0 d_Boat_become2_16 rfl rfl ?_
  refine g_aload_n C0 1 d_Boat_become2_17 rfl rfl ?_
  refine g_geti C0 CK_0 2 (by decide) t_238 1 rfl rfl d_Boat_become2_18 ?_
  obtain ⟨h21, e21, hE⟩ := nm_some hE
  refine g_puti C0 CK_0 CT_0 2 (by decide) t_238 rfl (by decide +kernel) nd_Boats2 0 rfl rfl d_Boat_become2_21 ?_
  refine g_heap e21 ?_
  obtain rfl := Option.some.inj hE
  exact g_vret C0 hr d_Boat_become2_24
theorem m_Boat_become2 (l : Launch) (K : KT) (ad : Nat → Nat) (h : Hp) {res : Hp} (hE : K_Boat_become2 h = some res) : ConV l y_Boat_become2 prog_2_method_2_code 2 (Option.none : Option Jvm.ClassFile.FieldType) rm_Boat_become2 K WBoats2 ad h [.ref (ad 30), .ref (ad 32)] res := fun sz =>
  con_start [(0, .ref (ad 30)), (1, .ref (ad 32))] (by decide +kernel) rfl (Nat.le_of_ble_eq_true rfl) (fun p e s m args below meth c C0 hr hnm hsz => w_Boat_become2 C0 hr h hE)
theorem toN_lt {x : Int32} {n : Nat} (h : vp_in x n) : x.toNatClampNeg < n := by unfold vp_in at h; omega
theorem toN_one {x : Int32} (h : vp_in x 2) (h0 : ¬ x = 0) : x.toNatClampNeg = 1 := by
  have h1 := toN_lt h
  have h2 : ¬ x < 0 := fun z => h (Or.inl z)
  have h3 : 0 ≤ x.toInt := Int32.le_iff_toInt_le.mp (Int32.not_lt.mp h2)
  have h4 : x.toInt ≠ 0 := fun z => h0 (Int32.toInt_inj.mp (by rw [z]; rfl))
  have h5 : x.toNatClampNeg = x.toInt.toNat := rfl
  omega
abbrev y_C_goBack : MethodName := ⟨"CanoeSides", "goBack", "(I)I"⟩
theorem cd_C_goBack : cwd y_C_goBack 1 := by decide +kernel
theorem d_C_goBack_0 : decode prog_1_method_32_code 0 = .ok (.iload_n 1, 1) := by decide +kernel
theorem d_C_goBack_1 : decode prog_1_method_32_code 1 = .ok (.iconst 0, 1) := by decide +kernel
theorem d_C_goBack_2 : decode prog_1_method_32_code 2 = .ok (.aload_n 0, 1) := by decide +kernel
theorem d_C_goBack_3 : decode prog_1_method_32_code 3 = .ok (.getfield 53, 3) := by decide +kernel
theorem d_C_goBack_6 : decode prog_1_method_32_code 6 = .ok (.arraylength, 1) := by decide +kernel
theorem d_C_goBack_7 : decode prog_1_method_32_code 7 = .ok (.iconst 1, 1) := by decide +kernel
theorem d_C_goBack_8 : decode prog_1_method_32_code 8 = .ok (.isub, 1) := by decide +kernel
theorem d_C_goBack_9 : decode prog_1_method_32_code 9 = .ok (.invokestatic 96, 3) := by decide +kernel
theorem d_C_goBack_12 : decode prog_1_method_32_code 12 = .ok (.ifCond .eq 6, 3) := by decide +kernel
theorem d_C_goBack_15 : decode prog_1_method_32_code 15 = .ok (.ldc 138, 2) := by decide +kernel
theorem d_C_goBack_17 : decode prog_1_method_32_code 17 = .ok (.ireturn, 1) := by decide +kernel
theorem d_C_goBack_18 : decode prog_1_method_32_code 18 = .ok (.aload_n 0, 1) := by decide +kernel
theorem d_C_goBack_19 : decode prog_1_method_32_code 19 = .ok (.getfield 53, 3) := by decide +kernel
theorem d_C_goBack_22 : decode prog_1_method_32_code 22 = .ok (.iload_n 1, 1) := by decide +kernel
theorem d_C_goBack_23 : decode prog_1_method_32_code 23 = .ok (.aaload, 1) := by decide +kernel
theorem d_C_goBack_24 : decode prog_1_method_32_code 24 = .ok (.astore_n 2, 1) := by decide +kernel
theorem d_C_goBack_25 : decode prog_1_method_32_code 25 = .ok (.aload_n 2, 1) := by decide +kernel
theorem d_C_goBack_26 : decode prog_1_method_32_code 26 = .ok (.ifnonnull 6, 3) := by decide +kernel
theorem d_C_goBack_29 : decode prog_1_method_32_code 29 = .ok (.ldc 147, 2) := by decide +kernel
theorem d_C_goBack_31 : decode prog_1_method_32_code 31 = .ok (.ireturn, 1) := by decide +kernel
theorem d_C_goBack_32 : decode prog_1_method_32_code 32 = .ok (.aload_n 0, 1) := by decide +kernel
theorem d_C_goBack_33 : decode prog_1_method_32_code 33 = .ok (.getfield 49, 3) := by decide +kernel
theorem d_C_goBack_36 : decode prog_1_method_32_code 36 = .ok (.aload_n 2, 1) := by decide +kernel
theorem d_C_goBack_37 : decode prog_1_method_32_code 37 = .ok (.invokevirtual 279, 3) := by decide +kernel
theorem d_C_goBack_40 : decode prog_1_method_32_code 40 = .ok (.aload_n 0, 1) := by decide +kernel
theorem d_C_goBack_41 : decode prog_1_method_32_code 41 = .ok (.getfield 60, 3) := by decide +kernel
theorem d_C_goBack_44 : decode prog_1_method_32_code 44 = .ok (.invokevirtual 283, 3) := by decide +kernel
theorem d_C_goBack_47 : decode prog_1_method_32_code 47 = .ok (.iconst 1, 1) := by decide +kernel
theorem d_C_goBack_48 : decode prog_1_method_32_code 48 = .ok (.ireturn, 1) := by decide +kernel
abbrev rm_C_goBack : Room := { frames := 1, cells := 0, slots := 0, locals := 22 }
def K_C_goBack (a0 : Int32) (h : Hp) : Option (Int32 × Hp) :=
  bd (K_C_isOutside a0 0 (2 - 1)) <| fun v9 => if v9 = 0 then (gA 2 (h 33) a0 <| fun v23 => if v23 = 0 then (some (-1000000003, h)) else (if a0 = 0 then (bd (K_Boat_become h) <| fun h37 => nm (mx [30, 31] h37 h) <| fun h37m => bd (K_Log_forget h37m) <| fun h44 => nm (mx [35, 36] h44 h37m) <| fun h44m => some (1, h44m)) else (bd (K_Boat_become2 h) <| fun h37 => nm (mx [30, 32] h37 h) <| fun h37m => bd (K_Log_forget h37m) <| fun h44 => nm (mx [35, 36] h44 h37m) <| fun h44m => some (1, h44m)))) else ( some ((-1000000001), h))
theorem w_C_goBack_00 {p : Program} {l : Launch} {e : Env} {s : State} {m : MethodId} {args : Array Value} {below : List Frame} {meth : Method} {c : Code} {K : KT} {A : Nat → Prop} (C0 : Cx p s m args meth c prog_1_method_32_code "CanoeSides" 3 K A) (hr : meth.sig.returnType = (Option.some Jvm.ClassFile.FieldType.int)) {ad : Nat → Nat} (a0 : Int32) (h : Hp) (hk0 : h 33 0 = 0) (hk1 : h 33 1 = 0) {res : Int32 × Hp} (hE : K_C_goBack a0 h = some res) : G p l e rm_C_goBack s m args below meth c K A WC00 3 0 0 (QI s args below K A WC00 0 0 ad res.1 res.2) 0 [(0, .ref (ad 0)), (1, .int a0)] [] ad h := by
  unfold K_C_goBack at hE
  refine g_iload_n C0 1 d_C_goBack_0 rfl rfl ?_
  refine g_iconst C0 (v := 0) d_C_goBack_1 (by decide) ?_
  refine g_aload_n C0 0 d_C_goBack_2 rfl rfl ?_
  refine g_getr C0 CK_10 8 (by decide) t_460 0 rfl rfl d_C_goBack_3 ?_
  refine g_qlen C0 15 rfl (v := 2) (by decide) d_C_goBack_6 ?_
  refine g_iconst C0 (v := 1) d_C_goBack_7 (by decide) ?_
  refine g_isub C0 d_C_goBack_8 ?_
  obtain ⟨v9, z9, hE⟩ := bd_some hE
  refine g_calliP C0 nd_C00 [] rfl (sb_E_C00) (runS C0 (m_C_isOutside l K ad h a0 0 (2 - 1) z9) 3 ⟨t_499, t_500, t_85, t_501⟩ cd_C_isOutside (by decide) (sb_E_C00) nd_E rfl rfl (Nat.le_of_ble_eq_true rfl) d_C_goBack_9) ?_
  have hB := ite_some hE
  refine g_if_eq C0 (tgt := 18) d_C_goBack_12 (by decide) (fun c_ => ?_) (fun c_ => ?_)
  · replace hE := hB.1 c_
    refine g_aload_n C0 0 d_C_goBack_18 rfl rfl ?_
    refine g_getr C0 CK_10 8 (by decide) t_460 0 rfl rfl d_C_goBack_19 ?_
    refine g_iload_n C0 1 d_C_goBack_22 rfl rfl ?_
    obtain ⟨q23, v23, e23, hE⟩ := gA_some hE
    have hB := ite_some hE
    refine g_aald C0 15 rfl q23 d_C_goBack_23 (fun c_ => ?_) (fun c_ => ?_)
    · replace hE := hB.1 (e23.trans c_)
      refine g_astoreN_n C0 [(2, .null), (0, .ref (ad 0)), (1, .int a0)] d_C_goBack_24 rfl (by decide) rfl ?_
      refine g_aloadN_n C0 0 d_C_goBack_25 rfl rfl ?_
      refine g_ifnonnullN C0 d_C_goBack_26 ?_
      refine g_ldc C0 (v := (-1000000003)) t_759 d_C_goBack_29 ?_
      obtain rfl := Option.some.inj hE
      exact g_iret C0 hr d_C_goBack_31
    · replace hE := hB.2 (fun z => c_ (e23.symm.trans z))
      have hB := ite_some hE
      by_cases c0 : a0 = 0
      · replace hE := hB.1 c0
        have hn0 : a0.toNatClampNeg = 0 := by rw [c0]; rfl
        rw [hn0] at c_ ⊢
        exact absurd (show h 33 0 = 0 from hk0) c_
      · replace hE := hB.2 c0
        have hn0 : a0.toNatClampNeg = 1 := toN_one q23 c0
        rw [hn0] at c_ ⊢
        exact absurd (show h 33 1 = 0 from hk1) c_
  · replace hE := hB.2 c_
    refine g_ldc C0 (v := (-1000000001)) t_742 d_C_goBack_15 ?_
    obtain rfl := Option.some.inj hE
    exact g_iret C0 hr d_C_goBack_17
theorem m_C_goBack_00 (l : Launch) (K : KT) (ad : Nat → Nat) (h : Hp) (a0 : Int32) (hk0 : h 33 0 = 0) (hk1 : h 33 1 = 0) {res : Int32 × Hp} (hE : K_C_goBack a0 h = some res) : ConI l y_C_goBack prog_1_method_32_code 3 (Option.some Jvm.ClassFile.FieldType.int) rm_C_goBack K WC00 ad h [.ref (ad 0), .int a0] res.1 res.2 := fun sz =>
  con_start [(0, .ref (ad 0)), (1, .int a0)] (by decide +kernel) rfl (Nat.le_of_ble_eq_true rfl) (fun p e s m args below meth c C0 hr hnm hsz => w_C_goBack_00 C0 hr a0 h hk0 hk1 hE)
theorem w_C_goBack_01 {p : Program} {l : Launch} {e : Env} {s : State} {m : MethodId} {args : Array Value} {below : List Frame} {meth : Method} {c : Code} {K : KT} {A : Nat → Prop} (C0 : Cx p s m args meth c prog_1_method_32_code "CanoeSides" 3 K A) (hr : meth.sig.returnType = (Option.some Jvm.ClassFile.FieldType.int)) {ad : Nat → Nat} (a0 : Int32) (h : Hp) (hk0 : h 33 0 = 0) {res : Int32 × Hp} (hE : K_C_goBack a0 h = some res) : G p l e rm_C_goBack s m args below meth c K A WC01 3 0 0 (QI s args below K A WC01 0 0 ad res.1 res.2) 0 [(0, .ref (ad 0)), (1, .int a0)] [] ad h := by
  unfold K_C_goBack at hE
  refine g_iload_n C0 1 d_C_goBack_0 rfl rfl ?_
  refine g_iconst C0 (v := 0) d_C_goBack_1 (by decide) ?_
  refine g_aload_n C0 0 d_C_goBack_2 rfl rfl ?_
  refine g_getr C0 CK_10 8 (by decide) t_460 0 rfl rfl d_C_goBack_3 ?_
  refine g_qlen C0 15 rfl (v := 2) (by decide) d_C_goBack_6 ?_
  refine g_iconst C0 (v := 1) d_C_goBack_7 (by decide) ?_
  refine g_isub C0 d_C_goBack_8 ?_
  obtain ⟨v9, z9, hE⟩ := bd_some hE
  refine g_calliP C0 nd_C01 [] rfl (sb_E_C01) (runS C0 (m_C_isOutside l K ad h a0 0 (2 - 1) z9) 3 ⟨t_499, t_500, t_85, t_501⟩ cd_C_isOutside (by decide) (sb_E_C01) nd_E rfl rfl (Nat.le_of_ble_eq_true rfl) d_C_goBack_9) ?_
  have hB := ite_some hE
  refine g_if_eq C0 (tgt := 18) d_C_goBack_12 (by decide) (fun c_ => ?_) (fun c_ => ?_)
  · replace hE := hB.1 c_
    refine g_aload_n C0 0 d_C_goBack_18 rfl rfl ?_
    refine g_getr C0 CK_10 8 (by decide) t_460 0 rfl rfl d_C_goBack_19 ?_
    refine g_iload_n C0 1 d_C_goBack_22 rfl rfl ?_
    obtain ⟨q23, v23, e23, hE⟩ := gA_some hE
    have hB := ite_some hE
    refine g_aald C0 15 rfl q23 d_C_goBack_23 (fun c_ => ?_) (fun c_ => ?_)
    · replace hE := hB.1 (e23.trans c_)
      refine g_astoreN_n C0 [(2, .null), (0, .ref (ad 0)), (1, .int a0)] d_C_goBack_24 rfl (by decide) rfl ?_
      refine g_aloadN_n C0 0 d_C_goBack_25 rfl rfl ?_
      refine g_ifnonnullN C0 d_C_goBack_26 ?_
      refine g_ldc C0 (v := (-1000000003)) t_759 d_C_goBack_29 ?_
      obtain rfl := Option.some.inj hE
      exact g_iret C0 hr d_C_goBack_31
    · replace hE := hB.2 (fun z => c_ (e23.symm.trans z))
      have hB := ite_some hE
      by_cases c0 : a0 = 0
      · replace hE := hB.1 c0
        have hn0 : a0.toNatClampNeg = 0 := by rw [c0]; rfl
        rw [hn0] at c_ ⊢
        exact absurd (show h 33 0 = 0 from hk0) c_
      · replace hE := hB.2 c0
        have hn0 : a0.toNatClampNeg = 1 := toN_one q23 c0
        rw [hn0] at c_ ⊢
        refine g_astore_n C0 [(2, .ref (ad 32)), (0, .ref (ad 0)), (1, .int a0)] d_C_goBack_24 rfl (by decide) rfl ?_
        refine g_aload_n C0 0 d_C_goBack_25 rfl rfl ?_
        refine g_ifnonnull C0 (tgt := 32) d_C_goBack_26 (by decide) ?_
        refine g_aload_n C0 1 d_C_goBack_32 rfl rfl ?_
        refine g_getr C0 CK_10 7 (by decide) t_459 0 rfl rfl d_C_goBack_33 ?_
        refine g_aload_n C0 0 d_C_goBack_36 rfl rfl ?_
        obtain ⟨h37, z37, hE⟩ := bd_some hE
        obtain ⟨h37m, e37, hE⟩ := nm_some hE
        refine g_callv C0 nd_C01 [30, 32] rfl (sb_Boats2_C01) (runV C0 (m_Boat_become2 l K ad h z37) 1 rfl ⟨t_1071, t_1072, t_1073, t_90, t_1074⟩ cd_Boat_become2 (by decide) 14 rfl rfl (sb_Boats2_C01) nd_Boats2 rfl rfl (Nat.le_of_ble_eq_true rfl) d_C_goBack_37) ?_
        refine g_heap e37 ?_
        refine g_aload_n C0 1 d_C_goBack_40 rfl rfl ?_
        refine g_getr C0 CK_10 9 (by decide) t_461 0 rfl rfl d_C_goBack_41 ?_
        obtain ⟨h44, z44, hE⟩ := bd_some hE
        obtain ⟨h44m, e44, hE⟩ := nm_some hE
        refine g_callv C0 nd_C01 [35, 36] rfl (sb_Log_C01) (runV C0 (m_Log_forget l K ad h37m z44) 0 rfl ⟨t_432, t_433, t_434, t_91, t_435⟩ cd_Log_forget (by decide) 16 rfl rfl (sb_Log_C01) nd_Log rfl rfl (Nat.le_of_ble_eq_true rfl) d_C_goBack_44) ?_
        refine g_heap e44 ?_
        refine g_iconst C0 (v := 1) d_C_goBack_47 (by decide) ?_
        obtain rfl := Option.some.inj hE
        exact g_iret C0 hr d_C_goBack_48
  · replace hE := hB.2 c_
    refine g_ldc C0 (v := (-1000000001)) t_742 d_C_goBack_15 ?_
    obtain rfl := Option.some.inj hE
    exact g_iret C0 hr d_C_goBack_17
theorem m_C_goBack_01 (l : Launch) (K : KT) (ad : Nat → Nat) (h : Hp) (a0 : Int32) (hk0 : h 33 0 = 0) {res : Int32 × Hp} (hE : K_C_goBack a0 h = some res) : ConI l y_C_goBack prog_1_method_32_code 3 (Option.some Jvm.ClassFile.FieldType.int) rm_C_goBack K WC01 ad h [.ref (ad 0), .int a0] res.1 res.2 := fun sz =>
  con_start [(0, .ref (ad 0)), (1, .int a0)] (by decide +kernel) rfl (Nat.le_of_ble_eq_true rfl) (fun p e s m args below meth c C0 hr hnm hsz => w_C_goBack_01 C0 hr a0 h hk0 hE)
theorem w_C_goBack_10 {p : Program} {l : Launch} {e : Env} {s : State} {m : MethodId} {args : Array Value} {below : List Frame} {meth : Method} {c : Code} {K : KT} {A : Nat → Prop} (C0 : Cx p s m args meth c prog_1_method_32_code "CanoeSides" 3 K A) (hr : meth.sig.returnType = (Option.some Jvm.ClassFile.FieldType.int)) {ad : Nat → Nat} (a0 : Int32) (h : Hp) (hk1 : h 33 1 = 0) {res : Int32 × Hp} (hE : K_C_goBack a0 h = some res) : G p l e rm_C_goBack s m args below meth c K A WC10 3 0 0 (QI s args below K A WC10 0 0 ad res.1 res.2) 0 [(0, .ref (ad 0)), (1, .int a0)] [] ad h := by
  unfold K_C_goBack at hE
  refine g_iload_n C0 1 d_C_goBack_0 rfl rfl ?_
  refine g_iconst C0 (v := 0) d_C_goBack_1 (by decide) ?_
  refine g_aload_n C0 0 d_C_goBack_2 rfl rfl ?_
  refine g_getr C0 CK_10 8 (by decide) t_460 0 rfl rfl d_C_goBack_3 ?_
  refine g_qlen C0 15 rfl (v := 2) (by decide) d_C_goBack_6 ?_
  refine g_iconst C0 (v := 1) d_C_goBack_7 (by decide) ?_
  refine g_isub C0 d_C_goBack_8 ?_
  obtain ⟨v9, z9, hE⟩ := bd_some hE
  refine g_calliP C0 nd_C10 [] rfl (sb_E_C10) (runS C0 (m_C_isOutside l K ad h a0 0 (2 - 1) z9) 3 ⟨t_499, t_500, t_85, t_501⟩ cd_C_isOutside (by decide) (sb_E_C10) nd_E rfl rfl (Nat.le_of_ble_eq_true rfl) d_C_goBack_9) ?_
  have hB := ite_some hE
  refine g_if_eq C0 (tgt := 18) d_C_goBack_12 (by decide) (fun c_ => ?_) (fun c_ => ?_)
  · replace hE := hB.1 c_
    refine g_aload_n C0 0 d_C_goBack_18 rfl rfl ?_
    refine g_getr C0 CK_10 8 (by decide) t_460 0 rfl rfl d_C_goBack_19 ?_
    refine g_iload_n C0 1 d_C_goBack_22 rfl rfl ?_
    obtain ⟨q23, v23, e23, hE⟩ := gA_some hE
    have hB := ite_some hE
    refine g_aald C0 15 rfl q23 d_C_goBack_23 (fun c_ => ?_) (fun c_ => ?_)
    · replace hE := hB.1 (e23.trans c_)
      refine g_astoreN_n C0 [(2, .null), (0, .ref (ad 0)), (1, .int a0)] d_C_goBack_24 rfl (by decide) rfl ?_
      refine g_aloadN_n C0 0 d_C_goBack_25 rfl rfl ?_
      refine g_ifnonnullN C0 d_C_goBack_26 ?_
      refine g_ldc C0 (v := (-1000000003)) t_759 d_C_goBack_29 ?_
      obtain rfl := Option.some.inj hE
      exact g_iret C0 hr d_C_goBack_31
    · replace hE := hB.2 (fun z => c_ (e23.symm.trans z))
      have hB := ite_some hE
      by_cases c0 : a0 = 0
      · replace hE := hB.1 c0
        have hn0 : a0.toNatClampNeg = 0 := by rw [c0]; rfl
        rw [hn0] at c_ ⊢
        refine g_astore_n C0 [(2, .ref (ad 31)), (0, .ref (ad 0)), (1, .int a0)] d_C_goBack_24 rfl (by decide) rfl ?_
        refine g_aload_n C0 0 d_C_goBack_25 rfl rfl ?_
        refine g_ifnonnull C0 (tgt := 32) d_C_goBack_26 (by decide) ?_
        refine g_aload_n C0 1 d_C_goBack_32 rfl rfl ?_
        refine g_getr C0 CK_10 7 (by decide) t_459 0 rfl rfl d_C_goBack_33 ?_
        refine g_aload_n C0 0 d_C_goBack_36 rfl rfl ?_
        obtain ⟨h37, z37, hE⟩ := bd_some hE
        obtain ⟨h37m, e37, hE⟩ := nm_some hE
        refine g_callv C0 nd_C10 [30, 31] rfl (sb_Boats_C10) (runV C0 (m_Boat_become l K ad h z37) 1 rfl ⟨t_1071, t_1072, t_1073, t_90, t_1074⟩ cd_Boat_become (by decide) 14 rfl rfl (sb_Boats_C10) nd_Boats rfl rfl (Nat.le_of_ble_eq_true rfl) d_C_goBack_37) ?_
        refine g_heap e37 ?_
        refine g_aload_n C0 1 d_C_goBack_40 rfl rfl ?_
        refine g_getr C0 CK_10 9 (by decide) t_461 0 rfl rfl d_C_goBack_41 ?_
        obtain ⟨h44, z44, hE⟩ := bd_some hE
        obtain ⟨h44m, e44, hE⟩ := nm_some hE
        refine g_callv C0 nd_C10 [35, 36] rfl (sb_Log_C10) (runV C0 (m_Log_forget l K ad h37m z44) 0 rfl ⟨t_432, t_433, t_434, t_91, t_435⟩ cd_Log_forget (by decide) 16 rfl rfl (sb_Log_C10) nd_Log rfl rfl (Nat.le_of_ble_eq_true rfl) d_C_goBack_44) ?_
        refine g_heap e44 ?_
        refine g_iconst C0 (v := 1) d_C_goBack_47 (by decide) ?_
        obtain rfl := Option.some.inj hE
        exact g_iret C0 hr d_C_goBack_48
      · replace hE := hB.2 c0
        have hn0 : a0.toNatClampNeg = 1 := toN_one q23 c0
        rw [hn0] at c_ ⊢
        exact absurd (show h 33 1 = 0 from hk1) c_
  · replace hE := hB.2 c_
    refine g_ldc C0 (v := (-1000000001)) t_742 d_C_goBack_15 ?_
    obtain rfl := Option.some.inj hE
    exact g_iret C0 hr d_C_goBack_17
theorem m_C_goBack_10 (l : Launch) (K : KT) (ad : Nat → Nat) (h : Hp) (a0 : Int32) (hk1 : h 33 1 = 0) {res : Int32 × Hp} (hE : K_C_goBack a0 h = some res) : ConI l y_C_goBack prog_1_method_32_code 3 (Option.some Jvm.ClassFile.FieldType.int) rm_C_goBack K WC10 ad h [.ref (ad 0), .int a0] res.1 res.2 := fun sz =>
  con_start [(0, .ref (ad 0)), (1, .int a0)] (by decide +kernel) rfl (Nat.le_of_ble_eq_true rfl) (fun p e s m args below meth c C0 hr hnm hsz => w_C_goBack_10 C0 hr a0 h hk1 hE)
theorem w_C_goBack_11 {p : Program} {l : Launch} {e : Env} {s : State} {m : MethodId} {args : Array Value} {below : List Frame} {meth : Method} {c : Code} {K : KT} {A : Nat → Prop} (C0 : Cx p s m args meth c prog_1_method_32_code "CanoeSides" 3 K A) (hr : meth.sig.returnType = (Option.some Jvm.ClassFile.FieldType.int)) {ad : Nat → Nat} (a0 : Int32) (h : Hp) {res : Int32 × Hp} (hE : K_C_goBack a0 h = some res) : G p l e rm_C_goBack s m args below meth c K A WC11 3 0 0 (QI s args below K A WC11 0 0 ad res.1 res.2) 0 [(0, .ref (ad 0)), (1, .int a0)] [] ad h := by
  unfold K_C_goBack at hE
  refine g_iload_n C0 1 d_C_goBack_0 rfl rfl ?_
  refine g_iconst C0 (v := 0) d_C_goBack_1 (by decide) ?_
  refine g_aload_n C0 0 d_C_goBack_2 rfl rfl ?_
  refine g_getr C0 CK_10 8 (by decide) t_460 0 rfl rfl d_C_goBack_3 ?_
  refine g_qlen C0 15 rfl (v := 2) (by decide) d_C_goBack_6 ?_
  refine g_iconst C0 (v := 1) d_C_goBack_7 (by decide) ?_
  refine g_isub C0 d_C_goBack_8 ?_
  obtain ⟨v9, z9, hE⟩ := bd_some hE
  refine g_calliP C0 nd_C11 [] rfl (sb_E_C11) (runS C0 (m_C_isOutside l K ad h a0 0 (2 - 1) z9) 3 ⟨t_499, t_500, t_85, t_501⟩ cd_C_isOutside (by decide) (sb_E_C11) nd_E rfl rfl (Nat.le_of_ble_eq_true rfl) d_C_goBack_9) ?_
  have hB := ite_some hE
  refine g_if_eq C0 (tgt := 18) d_C_goBack_12 (by decide) (fun c_ => ?_) (fun c_ => ?_)
  · replace hE := hB.1 c_
    refine g_aload_n C0 0 d_C_goBack_18 rfl rfl ?_
    refine g_getr C0 CK_10 8 (by decide) t_460 0 rfl rfl d_C_goBack_19 ?_
    refine g_iload_n C0 1 d_C_goBack_22 rfl rfl ?_
    obtain ⟨q23, v23, e23, hE⟩ := gA_some hE
    have hB := ite_some hE
    refine g_aald C0 15 rfl q23 d_C_goBack_23 (fun c_ => ?_) (fun c_ => ?_)
    · replace hE := hB.1 (e23.trans c_)
      refine g_astoreN_n C0 [(2, .null), (0, .ref (ad 0)), (1, .int a0)] d_C_goBack_24 rfl (by decide) rfl ?_
      refine g_aloadN_n C0 0 d_C_goBack_25 rfl rfl ?_
      refine g_ifnonnullN C0 d_C_goBack_26 ?_
      refine g_ldc C0 (v := (-1000000003)) t_759 d_C_goBack_29 ?_
      obtain rfl := Option.some.inj hE
      exact g_iret C0 hr d_C_goBack_31
    · replace hE := hB.2 (fun z => c_ (e23.symm.trans z))
      have hB := ite_some hE
      by_cases c0 : a0 = 0
      · replace hE := hB.1 c0
        have hn0 : a0.toNatClampNeg = 0 := by rw [c0]; rfl
        rw [hn0] at c_ ⊢
        refine g_astore_n C0 [(2, .ref (ad 31)), (0, .ref (ad 0)), (1, .int a0)] d_C_goBack_24 rfl (by decide) rfl ?_
        refine g_aload_n C0 0 d_C_goBack_25 rfl rfl ?_
        refine g_ifnonnull C0 (tgt := 32) d_C_goBack_26 (by decide) ?_
        refine g_aload_n C0 1 d_C_goBack_32 rfl rfl ?_
        refine g_getr C0 CK_10 7 (by decide) t_459 0 rfl rfl d_C_goBack_33 ?_
        refine g_aload_n C0 0 d_C_goBack_36 rfl rfl ?_
        obtain ⟨h37, z37, hE⟩ := bd_some hE
        obtain ⟨h37m, e37, hE⟩ := nm_some hE
        refine g_callv C0 nd_C11 [30, 31] rfl (sb_Boats_C11) (runV C0 (m_Boat_become l K ad h z37) 1 rfl ⟨t_1071, t_1072, t_1073, t_90, t_1074⟩ cd_Boat_become (by decide) 14 rfl rfl (sb_Boats_C11) nd_Boats rfl rfl (Nat.le_of_ble_eq_true rfl) d_C_goBack_37) ?_
        refine g_heap e37 ?_
        refine g_aload_n C0 1 d_C_goBack_40 rfl rfl ?_
        refine g_getr C0 CK_10 9 (by decide) t_461 0 rfl rfl d_C_goBack_41 ?_
        obtain ⟨h44, z44, hE⟩ := bd_some hE
        obtain ⟨h44m, e44, hE⟩ := nm_some hE
        refine g_callv C0 nd_C11 [35, 36] rfl (sb_Log_C11) (runV C0 (m_Log_forget l K ad h37m z44) 0 rfl ⟨t_432, t_433, t_434, t_91, t_435⟩ cd_Log_forget (by decide) 16 rfl rfl (sb_Log_C11) nd_Log rfl rfl (Nat.le_of_ble_eq_true rfl) d_C_goBack_44) ?_
        refine g_heap e44 ?_
        refine g_iconst C0 (v := 1) d_C_goBack_47 (by decide) ?_
        obtain rfl := Option.some.inj hE
        exact g_iret C0 hr d_C_goBack_48
      · replace hE := hB.2 c0
        have hn0 : a0.toNatClampNeg = 1 := toN_one q23 c0
        rw [hn0] at c_ ⊢
        refine g_astore_n C0 [(2, .ref (ad 32)), (0, .ref (ad 0)), (1, .int a0)] d_C_goBack_24 rfl (by decide) rfl ?_
        refine g_aload_n C0 0 d_C_goBack_25 rfl rfl ?_
        refine g_ifnonnull C0 (tgt := 32) d_C_goBack_26 (by decide) ?_
        refine g_aload_n C0 1 d_C_goBack_32 rfl rfl ?_
        refine g_getr C0 CK_10 7 (by decide) t_459 0 rfl rfl d_C_goBack_33 ?_
        refine g_aload_n C0 0 d_C_goBack_36 rfl rfl ?_
        obtain ⟨h37, z37, hE⟩ := bd_some hE
        obtain ⟨h37m, e37, hE⟩ := nm_some hE
        refine g_callv C0 nd_C11 [30, 32] rfl (sb_Boats2_C11) (runV C0 (m_Boat_become2 l K ad h z37) 1 rfl ⟨t_1071, t_1072, t_1073, t_90, t_1074⟩ cd_Boat_become2 (by decide) 14 rfl rfl (sb_Boats2_C11) nd_Boats2 rfl rfl (Nat.le_of_ble_eq_true rfl) d_C_goBack_37) ?_
        refine g_heap e37 ?_
        refine g_aload_n C0 1 d_C_goBack_40 rfl rfl ?_
        refine g_getr C0 CK_10 9 (by decide) t_461 0 rfl rfl d_C_goBack_41 ?_
        obtain ⟨h44, z44, hE⟩ := bd_some hE
        obtain ⟨h44m, e44, hE⟩ := nm_some hE
        refine g_callv C0 nd_C11 [35, 36] rfl (sb_Log_C11) (runV C0 (m_Log_forget l K ad h37m z44) 0 rfl ⟨t_432, t_433, t_434, t_91, t_435⟩ cd_Log_forget (by decide) 16 rfl rfl (sb_Log_C11) nd_Log rfl rfl (Nat.le_of_ble_eq_true rfl) d_C_goBack_44) ?_
        refine g_heap e44 ?_
        refine g_iconst C0 (v := 1) d_C_goBack_47 (by decide) ?_
        obtain rfl := Option.some.inj hE
        exact g_iret C0 hr d_C_goBack_48
  · replace hE := hB.2 c_
    refine g_ldc C0 (v := (-1000000001)) t_742 d_C_goBack_15 ?_
    obtain rfl := Option.some.inj hE
    exact g_iret C0 hr d_C_goBack_17
theorem m_C_goBack_11 (l : Launch) (K : KT) (ad : Nat → Nat) (h : Hp) (a0 : Int32) {res : Int32 × Hp} (hE : K_C_goBack a0 h = some res) : ConI l y_C_goBack prog_1_method_32_code 3 (Option.some Jvm.ClassFile.FieldType.int) rm_C_goBack K WC11 ad h [.ref (ad 0), .int a0] res.1 res.2 := fun sz =>
  con_start [(0, .ref (ad 0)), (1, .int a0)] (by decide +kernel) rfl (Nat.le_of_ble_eq_true rfl) (fun p e s m args below meth c C0 hr hnm hsz => w_C_goBack_11 C0 hr a0 h hE)
