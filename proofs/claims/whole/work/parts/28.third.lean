/-! third, half by program -/
abbrev WCs : Wl := [(0, .inl (10, [some (some 2), none, none, some (some 10), some (some 15), some (some 25), some (some 20), some (some 30), some (some 33), some (some 35), some (some 60), some (some 40), some (some 45), some (some 55)])), (2, .inr (.inl (0, 250))), (10, .inl (7, [none, none, some (some 11), none, none, none, none, none, none, none, none, none, some (some 12)])), (11, .inr (.inl (0, 48))), (12, .inr (.inl (0, 8))), (15, .inl (9, [some (some 16), some (some 17), none])), (16, .inr (.inl (0, 1920))), (17, .inr (.inl (0, 48))), (25, .inl (2, [some (some 15), some (some 26), some (some 27)])), (26, .inr (.inl (0, 16))), (27, .inr (.inl (0, 16))), (20, .inl (2, [some (some 15), some (some 21), some (some 22)])), (21, .inr (.inl (0, 16))), (22, .inr (.inl (0, 16))), (30, .inl (0, [none, none, none])), (33, .inr (.inr (2, 31))), (35, .inl (5, [some (some 36), none, none])), (36, .inr (.inl (0, 50))), (40, .inl (8, [some (some 41), some (some 42), some (some 43), none, none, none, none])), (41, .inr (.inl (0, 3456))), (42, .inr (.inl (0, 3456))), (43, .inr (.inl (0, 60))), (45, .inl (1, [some (some 46), some (some 47), some (some 48), some (some 49), none, none, none, none, none])), (46, .inr (.inl (0, 3456))), (47, .inr (.inl (0, 3456))), (48, .inr (.inl (0, 3456))), (49, .inr (.inl (0, 3456))), (55, .inl (3, [some (some 56), none, none, none])), (56, .inr (.inl (0, 384))), (60, .inl (4, [some (some 61), some (some 62), some (some 63), some (some 64), none, none])), (61, .inr (.inl (0, 4))), (62, .inr (.inl (0, 40))), (63, .inr (.inl (0, 20))), (64, .inr (.inl (0, 20)))]
theorem nd_Cs : nd WCs = true := by decide +kernel
theorem sb_CrewR_Cs : subW WCrewR WCs = true := by decide +kernel
theorem sb_Search_Cs : subW WSearch WCs = true := by decide +kernel
abbrev y_C_third : MethodName := ⟨"CanoeSides", "third", "(I)I"⟩
theorem cd_C_third : cwd y_C_third 1 := by decide +kernel
theorem d_C_third_0 : decode prog_1_method_22_code 0 = .ok (.iload_n 1, 1) := by decide +kernel
theorem d_C_third_1 : decode prog_1_method_22_code 1 = .ok (.iconst 1, 1) := by decide +kernel
theorem d_C_third_2 : decode prog_1_method_22_code 2 = .ok (.bipush 9, 2) := by decide +kernel
theorem d_C_third_4 : decode prog_1_method_22_code 4 = .ok (.invokestatic 96, 3) := by decide +kernel
theorem d_C_third_7 : decode prog_1_method_22_code 7 = .ok (.ifCond .eq 6, 3) := by decide +kernel
theorem d_C_third_10 : decode prog_1_method_22_code 10 = .ok (.ldc 100, 2) := by decide +kernel
theorem d_C_third_12 : decode prog_1_method_22_code 12 = .ok (.ireturn, 1) := by decide +kernel
theorem d_C_third_13 : decode prog_1_method_22_code 13 = .ok (.aload_n 0, 1) := by decide +kernel
theorem d_C_third_14 : decode prog_1_method_22_code 14 = .ok (.invokevirtual 143, 3) := by decide +kernel
theorem d_C_third_17 : decode prog_1_method_22_code 17 = .ok (.ifCond .eq 6, 3) := by decide +kernel
theorem d_C_third_20 : decode prog_1_method_22_code 20 = .ok (.ldc 147, 2) := by decide +kernel
theorem d_C_third_22 : decode prog_1_method_22_code 22 = .ok (.ireturn, 1) := by decide +kernel
theorem d_C_third_23 : decode prog_1_method_22_code 23 = .ok (.aload_n 0, 1) := by decide +kernel
theorem d_C_third_24 : decode prog_1_method_22_code 24 = .ok (.getfield 43, 3) := by decide +kernel
theorem d_C_third_27 : decode prog_1_method_22_code 27 = .ok (.aload_n 0, 1) := by decide +kernel
theorem d_C_third_28 : decode prog_1_method_22_code 28 = .ok (.getfield 23, 3) := by decide +kernel
theorem d_C_third_31 : decode prog_1_method_22_code 31 = .ok (.iload_n 1, 1) := by decide +kernel
theorem d_C_third_32 : decode prog_1_method_22_code 32 = .ok (.invokevirtual 234, 3) := by decide +kernel
theorem d_C_third_35 : decode prog_1_method_22_code 35 = .ok (.aload_n 0, 1) := by decide +kernel
theorem d_C_third_36 : decode prog_1_method_22_code 36 = .ok (.getfield 74, 3) := by decide +kernel
theorem d_C_third_39 : decode prog_1_method_22_code 39 = .ok (.aload_n 0, 1) := by decide +kernel
theorem d_C_third_40 : decode prog_1_method_22_code 40 = .ok (.getfield 23, 3) := by decide +kernel
theorem d_C_third_43 : decode prog_1_method_22_code 43 = .ok (.aload_n 0, 1) := by decide +kernel
theorem d_C_third_44 : decode prog_1_method_22_code 44 = .ok (.getfield 43, 3) := by decide +kernel
theorem d_C_third_47 : decode prog_1_method_22_code 47 = .ok (.aload_n 0, 1) := by decide +kernel
theorem d_C_third_48 : decode prog_1_method_22_code 48 = .ok (.invokevirtual 158, 3) := by decide +kernel
theorem d_C_third_51 : decode prog_1_method_22_code 51 = .ok (.iload_n 1, 1) := by decide +kernel
theorem d_C_third_52 : decode prog_1_method_22_code 52 = .ok (.invokevirtual 189, 3) := by decide +kernel
theorem d_C_third_55 : decode prog_1_method_22_code 55 = .ok (.aload_n 0, 1) := by decide +kernel
theorem d_C_third_56 : decode prog_1_method_22_code 56 = .ok (.getfield 74, 3) := by decide +kernel
theorem d_C_third_59 : decode prog_1_method_22_code 59 = .ok (.getfield 193, 3) := by decide +kernel
theorem d_C_third_62 : decode prog_1_method_22_code 62 = .ok (.ireturn, 1) := by decide +kernel
abbrev rm_C_third : Room := { frames := 6, cells := 0, slots := 0, locals := 153 }
def sw (q : Nat) : Nat := if q = 20 then 25 else if q = 25 then 20 else if q = 21 then 26 else if q = 26 then 21 else if q = 22 then 27 else if q = 27 then 22 else q
theorem sw_sw (q : Nat) : sw (sw q) = q := by
  unfold sw
  by_cases h1 : q = 20
  · subst h1; rfl
  · by_cases h2 : q = 25
    · subst h2; rfl
    · by_cases h3 : q = 21
      · subst h3; rfl
      · by_cases h4 : q = 26
        · subst h4; rfl
        · by_cases h5 : q = 22
          · subst h5; rfl
          · by_cases h6 : q = 27
            · subst h6; rfl
            · simp [h1, h2, h3, h4, h5, h6]
def sw3 (h : Hp) : Hp := fun q => h (sw q)
theorem sw3_sw3 (h : Hp) : sw3 (sw3 h) = h := by funext q; simp [sw3, sw_sw]
theorem swW (dA : Nat → ClassId) (ad adS : Nat → Nat) (h : Hp) (hS : ∀ q, adS q = ad (sw q)) : wd dA adS (sw3 h) WCs = wd dA ad h WC := by
  have hi2 : (fun i => if i < 2 then (if h 33 i = 0 then none else some (ad (sw (31 + i)))) else none) = (fun i => if i < 2 then (if h 33 i = 0 then none else some (ad (31 + i))) else none) := by
    funext i
    by_cases hi : i < 2
    · have : sw (31 + i) = 31 + i := by unfold sw; rw [if_neg (by omega), if_neg (by omega), if_neg (by omega), if_neg (by omega), if_neg (by omega), if_neg (by omega)]
      rw [if_pos hi, if_pos hi, this]
    · rw [if_neg hi, if_neg hi]
  simp [wd, wc, ent, fl, hS, sw3, show sw 20 = 25 from rfl, show sw 25 = 20 from rfl, show sw 21 = 26 from rfl, show sw 26 = 21 from rfl, show sw 22 = 27 from rfl, show sw 27 = 22 from rfl, show sw 0 = 0 from rfl, show sw 2 = 2 from rfl, show sw 10 = 10 from rfl, show sw 11 = 11 from rfl, show sw 12 = 12 from rfl, show sw 15 = 15 from rfl, show sw 16 = 16 from rfl, show sw 17 = 17 from rfl, show sw 30 = 30 from rfl, show sw 33 = 33 from rfl, show sw 35 = 35 from rfl, show sw 36 = 36 from rfl, show sw 40 = 40 from rfl, show sw 41 = 41 from rfl, show sw 42 = 42 from rfl, show sw 43 = 43 from rfl, show sw 45 = 45 from rfl, show sw 46 = 46 from rfl, show sw 47 = 47 from rfl, show sw 48 = 48 from rfl, show sw 49 = 49 from rfl, show sw 55 = 55 from rfl, show sw 56 = 56 from rfl, show sw 60 = 60 from rfl, show sw 61 = 61 from rfl, show sw 62 = 62 from rfl, show sw 63 = 63 from rfl, show sw 64 = 64 from rfl, hi2]
def K_C_third (N : Nat) (a0 : Int32) (h : Hp) : Option (Int32 × Hp) :=
  bd (K_C_isOutside a0 1 9) <| fun v4 => if v4 = 0 then (bd (K_C_noSquares h) <| fun v14 => if v14 = 0 then (bd (K_Crew_take N a0 (sw3 h)) <| fun h32 => nm (sw3 (mx [20, 21, 22, 15, 16, 17, 10, 11, 12] h32 (sw3 h))) <| fun h32m => bd (K_C_moment h32m) <| fun v48 => bd (K_Search_look N v48 a0 (sw3 h32m)) <| fun h52 => nm (sw3 (mx [40, 41, 42, 43, 10, 11, 12, 20, 21, 22, 15, 16, 17] h52 (sw3 h32m))) <| fun h52m => some ((h52m 40 5), h52m)) else ( some ((-1000000003), h))) else ( some ((-1000000002), h))
theorem w_C_third {p : Program} {l : Launch} {e : Env} {s : State} {m : MethodId} {args : Array Value} {below : List Frame} {meth : Method} {c : Code} {K : KT} {A : Nat → Prop} (C0 : Cx p s m args meth c prog_1_method_22_code "CanoeSides" 2 K A) (hr : meth.sig.returnType = (Option.some Jvm.ClassFile.FieldType.int)) {ad : Nat → Nat} (N : Nat) (a0 : Int32) (h : Hp) {res : Int32 × Hp} (hE : K_C_third N a0 h = some res) : G p l e rm_C_third s m args below meth c K A WC 2 0 0 (QI s args below K A WC 0 0 ad res.1 res.2) 0 [(0, .ref (ad 0)), (1, .int a0)] [] ad h := by
  unfold K_C_third at hE
  refine g_iload_n C0 1 d_C_third_0 rfl rfl ?_
  refine g_iconst C0 (v := 1) d_C_third_1 (by decide) ?_
  refine g_bipush C0 (v := 9) d_C_third_2 (by decide) ?_
  obtain ⟨v4, z4, hE⟩ := bd_some hE
  refine g_calliP C0 nd_C [] rfl (sb_E_C) (runS C0 (m_C_isOutside l K ad h a0 1 9 z4) 3 ⟨t_499, t_500, t_85, t_501⟩ cd_C_isOutside (by decide) (sb_E_C) nd_E rfl rfl (Nat.le_of_ble_eq_true rfl) d_C_third_4) ?_
  have hB := ite_some hE
  refine g_if_eq C0 (tgt := 13) d_C_third_7 (by decide) (fun c_ => ?_) (fun c_ => ?_)
  · replace hE := hB.1 c_
    refine g_aload_n C0 0 d_C_third_13 rfl rfl ?_
    obtain ⟨v14, z14, hE⟩ := bd_some hE
    refine g_calliP C0 nd_C [0, 2, 10, 11, 12, 15, 16, 17, 20, 21, 22, 25, 26, 27, 30, 33, 35, 36, 40, 41, 42, 43, 45, 46, 47, 48, 49, 55, 56, 60, 61, 62, 63, 64] rfl (sbW_self WC) (runV C0 (m_C_noSquares l K ad h z14) 0 rfl ⟨t_755, t_757, t_18, t_85, t_758⟩ cd_C_noSquares (by decide) 0 rfl rfl (sbW_self WC) nd_C rfl rfl (Nat.le_of_ble_eq_true rfl) d_C_third_14) ?_
    have hB := ite_some hE
    refine g_if_eq C0 (tgt := 23) d_C_third_17 (by decide) (fun c_ => ?_) (fun c_ => ?_)
    · replace hE := hB.1 c_
      refine g_aload_n C0 0 d_C_third_23 rfl rfl ?_
      refine g_getr C0 CK_10 6 (by decide) t_458 0 rfl rfl d_C_third_24 ?_
      refine g_aload_n C0 0 d_C_third_27 rfl rfl ?_
      refine g_getr C0 CK_10 3 (by decide) t_455 0 rfl rfl d_C_third_28 ?_
      refine g_iload_n C0 1 d_C_third_31 rfl rfl ?_
      obtain ⟨h32, z32, hE⟩ := bd_some hE
      obtain ⟨h32m, e32, hE⟩ := nm_some hE
      obtain ⟨adS, hS⟩ : ∃ adS : Nat → Nat, ∀ q, adS q = ad (sw q) := ⟨_, fun _ => rfl⟩
      refine g_recast (rs' := WCs) (ad' := adS) (h' := sw3 h) (swW _ _ _ _ hS) ?_
      rw [show ad 0 = adS 0 from (hS 0).symm]
      rw [show ad 25 = adS 20 from (hS 20).symm]
      rw [show ad 10 = adS 10 from (hS 10).symm]
      refine g_callv C0 nd_Cs [20, 21, 22, 15, 16, 17, 10, 11, 12] rfl (sb_CrewR_Cs) (runV C0 (m_Crew_take l K adS (sw3 h) N a0 z32) 2 rfl ⟨t_418, t_419, t_420, t_89, t_421⟩ cd_Crew_take (by decide) 11 rfl rfl (sb_CrewR_Cs) nd_CrewR rfl rfl (Nat.le_of_ble_eq_true rfl) d_C_third_32) ?_
      refine g_recast (rs' := WC) (ad' := ad) (h' := sw3 (mx [20, 21, 22, 15, 16, 17, 10, 11, 12] h32 (sw3 h))) (by rw [← swW K.2.1 ad adS (sw3 (mx [20, 21, 22, 15, 16, 17, 10, 11, 12] h32 (sw3 h))) hS, sw3_sw3]) ?_
      rw [show adS 0 = ad 0 from hS 0]
      refine g_heap e32 ?_
      refine g_aload_n C0 0 d_C_third_35 rfl rfl ?_
      refine g_getr C0 CK_10 11 (by decide) t_463 0 rfl rfl d_C_third_36 ?_
      refine g_aload_n C0 0 d_C_third_39 rfl rfl ?_
      refine g_getr C0 CK_10 3 (by decide) t_455 0 rfl rfl d_C_third_40 ?_
      refine g_aload_n C0 0 d_C_third_43 rfl rfl ?_
      refine g_getr C0 CK_10 6 (by decide) t_458 0 rfl rfl d_C_third_44 ?_
      refine g_aload_n C0 0 d_C_third_47 rfl rfl ?_
      obtain ⟨v48, z48, hE⟩ := bd_some hE
      refine g_calliP C0 nd_C [0, 2, 10, 11, 12, 15, 16, 17, 20, 21, 22, 25, 26, 27, 30, 33, 35, 36, 40, 41, 42, 43, 45, 46, 47, 48, 49, 55, 56, 60, 61, 62, 63, 64] rfl (sbW_self WC) (runV C0 (m_C_moment l K ad h32m z48) 0 rfl ⟨t_764, t_766, t_20, t_85, t_767⟩ cd_C_moment (by decide) 0 rfl rfl (sbW_self WC) nd_C rfl rfl (Nat.le_of_ble_eq_true rfl) d_C_third_48) ?_
      refine g_iload_n C0 1 d_C_third_51 rfl rfl ?_
      obtain ⟨h52, z52, hE⟩ := bd_some hE
      obtain ⟨h52m, e52, hE⟩ := nm_some hE
      obtain ⟨adS, hS⟩ : ∃ adS : Nat → Nat, ∀ q, adS q = ad (sw q) := ⟨_, fun _ => rfl⟩
      refine g_recast (rs' := WCs) (ad' := adS) (h' := sw3 h32m) (swW _ _ _ _ hS) ?_
      rw [show ad 0 = adS 0 from (hS 0).symm]
      rw [show ad 40 = adS 40 from (hS 40).symm]
      rw [show ad 10 = adS 10 from (hS 10).symm]
      rw [show ad 25 = adS 20 from (hS 20).symm]
      refine g_callv C0 nd_Cs [40, 41, 42, 43, 10, 11, 12, 20, 21, 22, 15, 16, 17] rfl (sb_Search_Cs) (runV C0 (m_Search_look l K adS (sw3 h32m) N v48 a0 z52) 4 rfl ⟨t_841, t_842, t_843, t_93, t_844⟩ cd_Search_look (by decide) 18 rfl rfl (sb_Search_Cs) nd_Search rfl rfl (Nat.le_of_ble_eq_true rfl) d_C_third_52) ?_
      refine g_recast (rs' := WC) (ad' := ad) (h' := sw3 (mx [40, 41, 42, 43, 10, 11, 12, 20, 21, 22, 15, 16, 17] h52 (sw3 h32m))) (by rw [← swW K.2.1 ad adS (sw3 (mx [40, 41, 42, 43, 10, 11, 12, 20, 21, 22, 15, 16, 17] h52 (sw3 h32m))) hS, sw3_sw3]) ?_
      rw [show adS 0 = ad 0 from hS 0]
      refine g_heap e52 ?_
      refine g_aload_n C0 0 d_C_third_55 rfl rfl ?_
      refine g_getr C0 CK_10 11 (by decide) t_463 0 rfl rfl d_C_third_56 ?_
      refine g_getiN C0 CK_8 5 (by decide) t_304 18 rfl rfl d_C_third_59 ?_
      obtain rfl := Option.some.inj hE
      exact g_iret C0 hr d_C_third_62
    · replace hE := hB.2 c_
      refine g_ldc C0 (v := (-1000000003)) t_759 d_C_third_20 ?_
      obtain rfl := Option.some.inj hE
      exact g_iret C0 hr d_C_third_22
  · replace hE := hB.2 c_
    refine g_ldc C0 (v := (-1000000002)) t_502 d_C_third_10 ?_
    obtain rfl := Option.some.inj hE
    exact g_iret C0 hr d_C_third_12
theorem m_C_third (l : Launch) (K : KT) (ad : Nat → Nat) (h : Hp) (N : Nat) (a0 : Int32) {res : Int32 × Hp} (hE : K_C_third N a0 h = some res) : ConI l y_C_third prog_1_method_22_code 2 (Option.some Jvm.ClassFile.FieldType.int) rm_C_third K WC ad h [.ref (ad 0), .int a0] res.1 res.2 := fun sz =>
  con_start [(0, .ref (ad 0)), (1, .int a0)] (by decide +kernel) rfl (Nat.le_of_ble_eq_true rfl) (fun p e s m args below meth c C0 hr hnm hsz => w_C_third C0 hr N a0 h hE)
