/-! the law, whole, over what the mathematics has to say -/
theorem t_104 : (Jvm.Cond.classLink "CanoeSidesLaw" (7 : Nat) "CanoeSides") ∈ TB := tb_of 104 (by decide +kernel) rfl
theorem t_105 : (Jvm.Cond.instantiable "CanoeSides" (14 : Nat)) ∈ TB := tb_of 105 (by decide +kernel) rfl
theorem t_106 : (Jvm.Cond.methodLink "CanoeSidesLaw" (9 : Nat) ({ cls := "CanoeSides", name := "<init>", desc := "()V" } : Jvm.MethodName)) ∈ TB := tb_of 106 (by decide +kernel) rfl
theorem t_107 : (Jvm.Cond.instanceMethod ({ cls := "CanoeSides", name := "<init>", desc := "()V" } : Jvm.MethodName)) ∈ TB := tb_of 107 (by decide +kernel) rfl
theorem t_108 : (Jvm.Cond.code ({ cls := "CanoeSides", name := "<init>", desc := "()V" } : Jvm.MethodName) prog_1_method_1_code (1 : Nat) (Option.none : Option Jvm.ClassFile.FieldType)) ∈ TB := tb_of 108 (by decide +kernel) rfl
theorem t_1079 : (Jvm.Cond.classLink "CanoeSidesLaw" (10 : Nat) "CanoeSidesModel") ∈ TB := tb_of 1079 (by decide +kernel) rfl
theorem t_1080 : (Jvm.Cond.instantiable "CanoeSidesModel" (33 : Nat)) ∈ TB := tb_of 1080 (by decide +kernel) rfl
theorem t_1081 : (Jvm.Cond.methodLink "CanoeSidesLaw" (12 : Nat) ({ cls := "CanoeSidesModel", name := "<init>", desc := "()V" } : Jvm.MethodName)) ∈ TB := tb_of 1081 (by decide +kernel) rfl
theorem t_1082 : (Jvm.Cond.instanceMethod ({ cls := "CanoeSidesModel", name := "<init>", desc := "()V" } : Jvm.MethodName)) ∈ TB := tb_of 1082 (by decide +kernel) rfl
theorem t_1083 : (Jvm.Cond.code ({ cls := "CanoeSidesModel", name := "<init>", desc := "()V" } : Jvm.MethodName) prog_13_method_1_code (1 : Nat) (Option.none : Option Jvm.ClassFile.FieldType)) ∈ TB := tb_of 1083 (by decide +kernel) rfl
theorem law_ret {p : Program} {l : Launch} {e : Env} {s : State} {m : MethodId} {below : List Frame} {meth : Method} {c : Code} {K : KT} {b : Nat} (C0 : Cx p s m #[Value.ref b] meth c code R_law 4 K (fun q : Nat => s.heap.size ≤ q)) (hr : meth.sig.returnType = ret) {rs : Wl} {cells slots pc : Nat} {L : List (Nat × Value)} {ad : Nat → Nat} {h : Hp} (hc : cells ≤ 600000) (hs : slots ≤ 7302250) (hdg : decode code pc = .ok (.ireturn, 1)) :
    G p l e room_1 s m #[Value.ref b] below meth c K (fun q : Nat => s.heap.size ≤ q) rs 4 cells slots (lw_Z below #[Value.ref b] s) pc L [.int 1] ad h := by
  intro H locs ls h1 h2 h3 h4
  refine va_forget (fun q hq => h3.2.2 q hq) ?_
  refine W.widen hc hs ?_
  exact lw_ret C0.1 C0.2.1 hr C0.2.2.2.2.2.2.2.2 hdg
set_option maxHeartbeats 4000000 in
theorem law_loop {p : Program} {l : Launch} {e : Env} {s : State} {m : MethodId} {below : List Frame} {meth : Method} {c : Code} {K : KT} {b Ln : Nat} {xs : Nat → Int32} (C0 : Cx p s m #[Value.ref b] meth c code R_law 4 K (fun q : Nat => s.heap.size ≤ q)) (hX : va_X b Ln xs s s.heap) (hbl : b < s.heap.size) (hL : Ln ≤ 256) (hr : meth.sig.returnType = ret) {N : Nat} {Inv : Nat → Bool → Bool → Hp → Prop} (HM : MO_all N Inv) : ∀ (f i k : Nat) (b0 b1 : Bool) (ad : Nat → Nat) (h : Hp), 4 * k ≤ i → i ≤ Ln → Ln - i < f → Inv k b0 b1 h → G p l e room_1 s m #[Value.ref b] below meth c K (fun q : Nat => s.heap.size ≤ q) (WLw b0 b1) 4 (50 + i) (138783 + 20 * i) (lw_Z below #[Value.ref b] s) 18 [(0, .ref b), (1, .ref (ad 0)), (2, .ref (ad 100)), (3, .int (nI i))] [] ad h := by
  obtain ⟨-, H_feed, H_river, H_fault, H_told, H_square, H_habit, H_stroke, H_would, H_back, H_set, H_drift, H_fewest, H_calls, H_mute, H_round, H_off, H_best, H_still, H_surely, H_alone, H_third, H_rules, H_line, H_fits, H_gave, H_write, H_judge, H_tear, H_seed, H_keep, H_goBack⟩ := HM
  intro f
  induction f with
  | zero => intro i k b0 b1 ad h _ _ h3; omega
  | succ f ih =>
    intro i k b0 b1 ad h hik hiL hf hI
    refine g_iload_n C0 3 d_law_18 rfl rfl ?_
    refine g_aload_n C0 0 d_law_19 rfl rfl ?_
    refine g_slen C0 hX hbl (Nat.not_le.mpr hbl) d_law_20 ?_
    refine g_iconst C0 (v := nI 4) d_law_21 (by decide) ?_
    refine g_isub C0 d_law_22 ?_
    refine g_icmp_gt C0 (tgt := 1001) d_law_23 (by decide) (fun c_ => ?_) (fun c_ => ?_)
    · refine g_iconst C0 (v := 1) d_law_1001 (by decide) ?_
      exact law_ret C0 hr (by omega) (by omega) d_law_1002
    · have hi4 : i + 4 ≤ Ln := by
        have h9 := pk_sub_toInt (a := Ln) (b := 4) (by omega) (by omega)
        have h8 := nI_toInt (n := i) (by omega)
        have h7 : ¬ (nI Ln - nI 4).toInt < (nI i).toInt := fun z => c_ (Int32.lt_iff_toInt_lt.mpr z)
        rw [h9, h8] at h7
        omega
      refine g_aload_n C0 0 d_law_26 rfl rfl ?_
      refine g_iload_n C0 3 d_law_27 rfl rfl ?_
      refine g_sld C0 hX hbl (Nat.not_le.mpr hbl) i (by omega) (by omega) rfl d_law_28 ?_
      refine g_bipush C0 (v := 31) d_law_29 (by decide) ?_
      refine g_iand C0 d_law_31 ?_
      have back : ∀ (d0 d1 : Bool) (ad' : Nat → Nat) (h' : Hp) (k2 : Nat), 4 * k2 ≤ i + 4 → Inv k2 d0 d1 h' → G p l e room_1 s m #[Value.ref b] below meth c K (fun q : Nat => s.heap.size ≤ q) (WLw d0 d1) 4 (50 + i + 4) (138783 + 20 * i + 77) (lw_Z below #[Value.ref b] s) 995 [(0, .ref b), (1, .ref (ad' 0)), (2, .ref (ad' 100)), (3, .int (nI i))] [] ad' h' := by
        intro d0 d1 ad' h' k2 hk2 hI2
        refine g_iinc C0 3 [(3, .int (nI (i + 4))), (0, .ref b), (1, .ref (ad' 0)), (2, .ref (ad' 100))] d_law_995 rfl (by rw [show Int32.ofInt 4 = nI 4 from rfl, nI_add]) (by decide) rfl ?_
        refine g_goto C0 (tgt := 18) d_law_998 (by decide) ?_
        refine g_sub [1, 2, 3, 0] (L' := [(0, .ref b), (1, .ref (ad' 0)), (2, .ref (ad' 100)), (3, .int (nI (i + 4)))]) rfl ?_
        refine g_widen (k := 50 + (i + 4)) (n := 138783 + 20 * (i + 4)) (by omega) (by omega) ?_
        exact ih (i + 4) k2 d0 d1 ad' h' hk2 hi4 (by omega) hI2
      have hcc : 50 + i + 4 ≤ room_1.cells := by show 50 + i + 4 ≤ 600000; omega
      have hss : 138783 + 20 * i + 77 ≤ room_1.slots := by show 138783 + 20 * i + 77 ≤ 7302250; omega
      by_cases c0 : xs i &&& 31 = 0
      · refine g_tableIn C0 (tgt := 172) (off := 140) d_law_32 (by rw [c0]; decide) (by rw [c0]; decide) (by rw [c0]; rfl) (by decide) ?_
        exact law_feed C0 hX hbl hL H_feed i k hi4 (by omega) b0 b1 ad h hI hcc hss (fun d0 d1 ad' h' hI2 => back d0 d1 ad' h' (k + 1) (by omega) hI2)
      · skip
        by_cases c1 : xs i &&& 31 = 1
        · refine g_tableIn C0 (tgt := 195) (off := 163) d_law_32 (by rw [c1]; decide) (by rw [c1]; decide) (by rw [c1]; rfl) (by decide) ?_
          exact law_river C0 hX hbl hL H_river i k hi4 (by omega) b0 b1 ad h hI hcc hss (fun d0 d1 ad' h' hI2 => back d0 d1 ad' h' (k + 1) (by omega) hI2)
        · skip
          by_cases c2 : xs i &&& 31 = 2
          · refine g_tableIn C0 (tgt := 208) (off := 176) d_law_32 (by rw [c2]; decide) (by rw [c2]; decide) (by rw [c2]; rfl) (by decide) ?_
            exact law_fault C0 hX hbl hL H_fault i k hi4 (by omega) b0 b1 ad h hI hcc hss (fun d0 d1 ad' h' hI2 => back d0 d1 ad' h' (k + 1) (by omega) hI2)
          · skip
            by_cases c3 : xs i &&& 31 = 3
            · refine g_tableIn C0 (tgt := 221) (off := 189) d_law_32 (by rw [c3]; decide) (by rw [c3]; decide) (by rw [c3]; rfl) (by decide) ?_
              exact law_told C0 hX hbl hL H_told i k hi4 (by omega) b0 b1 ad h hI hcc hss (fun d0 d1 ad' h' hI2 => back d0 d1 ad' h' (k + 1) (by omega) hI2)
            · skip
              by_cases c4 : xs i &&& 31 = 4
              · refine g_tableIn C0 (tgt := 244) (off := 212) d_law_32 (by rw [c4]; decide) (by rw [c4]; decide) (by rw [c4]; rfl) (by decide) ?_
                exact law_square C0 hX hbl hL H_square i k hi4 (by omega) b0 b1 ad h hI hcc hss (fun d0 d1 ad' h' hI2 => back d0 d1 ad' h' (k + 1) (by omega) hI2)
              · skip
                by_cases c5 : xs i &&& 31 = 5
                · refine g_tableIn C0 (tgt := 277) (off := 245) d_law_32 (by rw [c5]; decide) (by rw [c5]; decide) (by rw [c5]; rfl) (by decide) ?_
                  exact law_habit C0 hX hbl hL H_habit i k hi4 (by omega) b0 b1 ad h hI hcc hss (fun d0 d1 ad' h' hI2 => back d0 d1 ad' h' (k + 1) (by omega) hI2)
                · skip
                  by_cases c6 : xs i &&& 31 = 6
                  · refine g_tableIn C0 (tgt := 310) (off := 278) d_law_32 (by rw [c6]; decide) (by rw [c6]; decide) (by rw [c6]; rfl) (by decide) ?_
                    exact law_stroke C0 hX hbl hL H_stroke i k hi4 (by omega) b0 b1 ad h hI hcc hss (fun d0 d1 ad' h' hI2 => back d0 d1 ad' h' (k + 1) (by omega) hI2)
                  · skip
                    by_cases c7 : xs i &&& 31 = 7
                    · refine g_tableIn C0 (tgt := 343) (off := 311) d_law_32 (by rw [c7]; decide) (by rw [c7]; decide) (by rw [c7]; rfl) (by decide) ?_
                      exact law_would C0 hX hbl hL H_would i k hi4 (by omega) b0 b1 ad h hI hcc hss (fun d0 d1 ad' h' hI2 => back d0 d1 ad' h' (k + 1) (by omega) hI2)
                    · skip
                      by_cases c8 : xs i &&& 31 = 8
                      · refine g_tableIn C0 (tgt := 386) (off := 354) d_law_32 (by rw [c8]; decide) (by rw [c8]; decide) (by rw [c8]; rfl) (by decide) ?_
                        exact law_back C0 hX hbl hL H_back i k hi4 (by omega) b0 b1 ad h hI hcc hss (fun d0 d1 ad' h' hI2 => back d0 d1 ad' h' (k + 1) (by omega) hI2)
                      · skip
                        by_cases c9 : xs i &&& 31 = 9
                        · refine g_tableIn C0 (tgt := 409) (off := 377) d_law_32 (by rw [c9]; decide) (by rw [c9]; decide) (by rw [c9]; rfl) (by decide) ?_
                          exact law_set C0 hX hbl hL H_set i k hi4 (by omega) b0 b1 ad h hI hcc hss (fun d0 d1 ad' h' hI2 => back d0 d1 ad' h' (k + 1) (by omega) hI2)
                        · skip
                          by_cases c10 : xs i &&& 31 = 10
                          · refine g_tableIn C0 (tgt := 452) (off := 420) d_law_32 (by rw [c10]; decide) (by rw [c10]; decide) (by rw [c10]; rfl) (by decide) ?_
                            exact law_drift C0 hX hbl hL H_drift i k hi4 (by omega) b0 b1 ad h hI hcc hss (fun d0 d1 ad' h' hI2 => back d0 d1 ad' h' (k + 1) (by omega) hI2)
                          · skip
                            by_cases c11 : xs i &&& 31 = 11
                            · refine g_tableIn C0 (tgt := 475) (off := 443) d_law_32 (by rw [c11]; decide) (by rw [c11]; decide) (by rw [c11]; rfl) (by decide) ?_
                              exact law_fewest C0 hX hbl hL H_fewest i k hi4 (by omega) b0 b1 ad h hI hcc hss (fun d0 d1 ad' h' hI2 => back d0 d1 ad' h' (k + 1) (by omega) hI2)
                            · skip
                              by_cases c12 : xs i &&& 31 = 12
                              · refine g_tableIn C0 (tgt := 498) (off := 466) d_law_32 (by rw [c12]; decide) (by rw [c12]; decide) (by rw [c12]; rfl) (by decide) ?_
                                exact law_calls C0 hX hbl hL H_calls i k hi4 (by omega) b0 b1 ad h hI hcc hss (fun d0 d1 ad' h' hI2 => back d0 d1 ad' h' (k + 1) (by omega) hI2)
                              · skip
                                by_cases c13 : xs i &&& 31 = 13
                                · refine g_tableIn C0 (tgt := 531) (off := 499) d_law_32 (by rw [c13]; decide) (by rw [c13]; decide) (by rw [c13]; rfl) (by decide) ?_
                                  exact law_mute C0 hX hbl hL H_mute i k hi4 (by omega) b0 b1 ad h hI hcc hss (fun d0 d1 ad' h' hI2 => back d0 d1 ad' h' (k + 1) (by omega) hI2)
                                · skip
                                  by_cases c14 : xs i &&& 31 = 14
                                  · refine g_tableIn C0 (tgt := 574) (off := 542) d_law_32 (by rw [c14]; decide) (by rw [c14]; decide) (by rw [c14]; rfl) (by decide) ?_
                                    exact law_round C0 hX hbl hL H_round i k hi4 (by omega) b0 b1 ad h hI hcc hss (fun d0 d1 ad' h' hI2 => back d0 d1 ad' h' (k + 1) (by omega) hI2)
                                  · skip
                                    by_cases c15 : xs i &&& 31 = 15
                                    · refine g_tableIn C0 (tgt := 607) (off := 575) d_law_32 (by rw [c15]; decide) (by rw [c15]; decide) (by rw [c15]; rfl) (by decide) ?_
                                      exact law_off C0 hX hbl hL H_off i k hi4 (by omega) b0 b1 ad h hI hcc hss (fun d0 d1 ad' h' hI2 => back d0 d1 ad' h' (k + 1) (by omega) hI2)
                                    · skip
                                      by_cases c16 : xs i &&& 31 = 16
                                      · refine g_tableIn C0 (tgt := 650) (off := 618) d_law_32 (by rw [c16]; decide) (by rw [c16]; decide) (by rw [c16]; rfl) (by decide) ?_
                                        exact law_best C0 hX hbl hL H_best i k hi4 (by omega) b0 b1 ad h hI hcc hss (fun d0 d1 ad' h' hI2 => back d0 d1 ad' h' (k + 1) (by omega) hI2)
                                      · skip
                                        by_cases c17 : xs i &&& 31 = 17
                                        · refine g_tableIn C0 (tgt := 673) (off := 641) d_law_32 (by rw [c17]; decide) (by rw [c17]; decide) (by rw [c17]; rfl) (by decide) ?_
                                          exact law_still C0 hX hbl hL H_still i k hi4 (by omega) b0 b1 ad h hI hcc hss (fun d0 d1 ad' h' hI2 => back d0 d1 ad' h' (k + 1) (by omega) hI2)
                                        · skip
                                          by_cases c18 : xs i &&& 31 = 18
                                          · refine g_tableIn C0 (tgt := 696) (off := 664) d_law_32 (by rw [c18]; decide) (by rw [c18]; decide) (by rw [c18]; rfl) (by decide) ?_
                                            exact law_surely C0 hX hbl hL H_surely i k hi4 (by omega) b0 b1 ad h hI hcc hss (fun d0 d1 ad' h' hI2 => back d0 d1 ad' h' (k + 1) (by omega) hI2)
                                          · skip
                                            by_cases c19 : xs i &&& 31 = 19
                                            · refine g_tableIn C0 (tgt := 719) (off := 687) d_law_32 (by rw [c19]; decide) (by rw [c19]; decide) (by rw [c19]; rfl) (by decide) ?_
                                              exact law_alone C0 hX hbl hL H_alone i k hi4 (by omega) b0 b1 ad h hI hcc hss (fun d0 d1 ad' h' hI2 => back d0 d1 ad' h' (k + 1) (by omega) hI2)
                                            · skip
                                              by_cases c20 : xs i &&& 31 = 20
                                              · refine g_tableIn C0 (tgt := 732) (off := 700) d_law_32 (by rw [c20]; decide) (by rw [c20]; decide) (by rw [c20]; rfl) (by decide) ?_
                                                exact law_third C0 hX hbl hL H_third i k hi4 (by omega) b0 b1 ad h hI hcc hss (fun d0 d1 ad' h' hI2 => back d0 d1 ad' h' (k + 1) (by omega) hI2)
                                              · skip
                                                by_cases c21 : xs i &&& 31 = 21
                                                · refine g_tableIn C0 (tgt := 755) (off := 723) d_law_32 (by rw [c21]; decide) (by rw [c21]; decide) (by rw [c21]; rfl) (by decide) ?_
                                                  exact law_rules C0 hX hbl hL H_rules i k hi4 (by omega) b0 b1 ad h hI hcc hss (fun d0 d1 ad' h' hI2 => back d0 d1 ad' h' (k + 1) (by omega) hI2)
                                                · skip
                                                  by_cases c22 : xs i &&& 31 = 22
                                                  · refine g_tableIn C0 (tgt := 778) (off := 746) d_law_32 (by rw [c22]; decide) (by rw [c22]; decide) (by rw [c22]; rfl) (by decide) ?_
                                                    exact law_line C0 hX hbl hL H_line i k hi4 (by omega) b0 b1 ad h hI hcc hss (fun d0 d1 ad' h' hI2 => back d0 d1 ad' h' (k + 1) (by omega) hI2)
                                                  · skip
                                                    by_cases c23 : xs i &&& 31 = 23
                                                    · refine g_tableIn C0 (tgt := 811) (off := 779) d_law_32 (by rw [c23]; decide) (by rw [c23]; decide) (by rw [c23]; rfl) (by decide) ?_
                                                      exact law_fits C0 hX hbl hL H_fits i k hi4 (by omega) b0 b1 ad h hI hcc hss (fun d0 d1 ad' h' hI2 => back d0 d1 ad' h' (k + 1) (by omega) hI2)
                                                    · skip
                                                      by_cases c24 : xs i &&& 31 = 24
                                                      · refine g_tableIn C0 (tgt := 834) (off := 802) d_law_32 (by rw [c24]; decide) (by rw [c24]; decide) (by rw [c24]; rfl) (by decide) ?_
                                                        exact law_gave C0 hX hbl hL H_gave i k hi4 (by omega) b0 b1 ad h hI hcc hss (fun d0 d1 ad' h' hI2 => back d0 d1 ad' h' (k + 1) (by omega) hI2)
                                                      · skip
                                                        by_cases c25 : xs i &&& 31 = 25
                                                        · refine g_tableIn C0 (tgt := 857) (off := 825) d_law_32 (by rw [c25]; decide) (by rw [c25]; decide) (by rw [c25]; rfl) (by decide) ?_
                                                          exact law_write C0 hX hbl hL H_write i k hi4 (by omega) b0 b1 ad h hI hcc hss (fun d0 d1 ad' h' hI2 => back d0 d1 ad' h' (k + 1) (by omega) hI2)
                                                        · skip
                                                          by_cases c26 : xs i &&& 31 = 26
                                                          · refine g_tableIn C0 (tgt := 900) (off := 868) d_law_32 (by rw [c26]; decide) (by rw [c26]; decide) (by rw [c26]; rfl) (by decide) ?_
                                                            exact law_judge C0 hX hbl hL H_judge i k hi4 (by omega) b0 b1 ad h hI hcc hss (fun d0 d1 ad' h' hI2 => back d0 d1 ad' h' (k + 1) (by omega) hI2)
                                                          · skip
                                                            by_cases c27 : xs i &&& 31 = 27
                                                            · refine g_tableIn C0 (tgt := 913) (off := 881) d_law_32 (by rw [c27]; decide) (by rw [c27]; decide) (by rw [c27]; rfl) (by decide) ?_
                                                              exact law_tear C0 hX hbl hL H_tear i k hi4 (by omega) b0 b1 ad h hI hcc hss (fun d0 d1 ad' h' hI2 => back d0 d1 ad' h' (k + 1) (by omega) hI2)
                                                            · skip
                                                              by_cases c28 : xs i &&& 31 = 28
                                                              · refine g_tableIn C0 (tgt := 926) (off := 894) d_law_32 (by rw [c28]; decide) (by rw [c28]; decide) (by rw [c28]; rfl) (by decide) ?_
                                                                exact law_seed C0 hX hbl hL H_seed i k hi4 (by omega) b0 b1 ad h hI hcc hss (fun d0 d1 ad' h' hI2 => back d0 d1 ad' h' (k + 1) (by omega) hI2)
                                                              · skip
                                                                by_cases c29 : xs i &&& 31 = 29
                                                                · refine g_tableIn C0 (tgt := 949) (off := 917) d_law_32 (by rw [c29]; decide) (by rw [c29]; decide) (by rw [c29]; rfl) (by decide) ?_
                                                                  exact law_keep C0 hX hbl hL H_keep i k hi4 (by omega) b0 b1 ad h hI hcc hss (fun d0 d1 ad' h' hI2 => back d0 d1 ad' h' (k + 1) (by omega) hI2)
                                                                · skip
                                                                  by_cases c30 : xs i &&& 31 = 30
                                                                  · refine g_tableIn C0 (tgt := 972) (off := 940) d_law_32 (by rw [c30]; decide) (by rw [c30]; decide) (by rw [c30]; rfl) (by decide) ?_
                                                                    exact law_goBack C0 hX hbl hL H_goBack i k hi4 (by omega) b0 b1 ad h hI hcc hss (fun d0 d1 ad' h' hI2 => back d0 d1 ad' h' (k + 1) (by omega) hI2)
                                                                  · skip
                                                                    refine g_tableOut C0 (tgt := 995) d_law_32 (by have n0 := i32_ne (j := 0) c0 (by decide) (by decide); have n1 := i32_ne (j := 1) c1 (by decide) (by decide); have n2 := i32_ne (j := 2) c2 (by decide) (by decide); have n3 := i32_ne (j := 3) c3 (by decide) (by decide); have n4 := i32_ne (j := 4) c4 (by decide) (by decide); have n5 := i32_ne (j := 5) c5 (by decide) (by decide); have n6 := i32_ne (j := 6) c6 (by decide) (by decide); have n7 := i32_ne (j := 7) c7 (by decide) (by decide); have n8 := i32_ne (j := 8) c8 (by decide) (by decide); have n9 := i32_ne (j := 9) c9 (by decide) (by decide); have n10 := i32_ne (j := 10) c10 (by decide) (by decide); have n11 := i32_ne (j := 11) c11 (by decide) (by decide); have n12 := i32_ne (j := 12) c12 (by decide) (by decide); have n13 := i32_ne (j := 13) c13 (by decide) (by decide); have n14 := i32_ne (j := 14) c14 (by decide) (by decide); have n15 := i32_ne (j := 15) c15 (by decide) (by decide); have n16 := i32_ne (j := 16) c16 (by decide) (by decide); have n17 := i32_ne (j := 17) c17 (by decide) (by decide); have n18 := i32_ne (j := 18) c18 (by decide) (by decide); have n19 := i32_ne (j := 19) c19 (by decide) (by decide); have n20 := i32_ne (j := 20) c20 (by decide) (by decide); have n21 := i32_ne (j := 21) c21 (by decide) (by decide); have n22 := i32_ne (j := 22) c22 (by decide) (by decide); have n23 := i32_ne (j := 23) c23 (by decide) (by decide); have n24 := i32_ne (j := 24) c24 (by decide) (by decide); have n25 := i32_ne (j := 25) c25 (by decide) (by decide); have n26 := i32_ne (j := 26) c26 (by decide) (by decide); have n27 := i32_ne (j := 27) c27 (by decide) (by decide); have n28 := i32_ne (j := 28) c28 (by decide) (by decide); have n29 := i32_ne (j := 29) c29 (by decide) (by decide); have n30 := i32_ne (j := 30) c30 (by decide) (by decide); omega) (by decide) ?_
                                                                    refine g_widen (k := 50 + i + 4) (n := 138783 + 20 * i + 77) (by omega) (by omega) ?_
                                                                    exact back b0 b1 ad h k (by omega) hI
theorem mx_perm {l1 l2 : List Nat} (h : (l1.all (fun x => decide (x ∈ l2)) && l2.all (fun x => decide (x ∈ l1))) = true) (h1 h2 : Hp) : mx l1 h1 h2 = mx l2 h1 h2 := by
  rw [Bool.and_eq_true] at h
  funext q
  unfold mx
  have e : q ∈ l1 ↔ q ∈ l2 := ⟨fun z => by simpa using List.all_eq_true.mp h.1 q z, fun z => by simpa using List.all_eq_true.mp h.2 q z⟩
  by_cases hq : q ∈ l1
  · rw [if_pos hq, if_pos (e.mp hq)]
  · rw [if_neg hq, if_neg (fun z => hq (e.mpr z))]
set_option maxHeartbeats 4000000 in
theorem whole_of {N : Nat} {Inv : Nat → Bool → Bool → Hp → Prop} (HM : MO_all N Inv) {p : Program} {e : Env} {s : State} {m : MethodId} {below : List Frame} {meth : Method} {c : Code} (l : Launch) {b L : Nat} {xs : Nat → Int32} (hL : L ≤ 256) (L0 : lw_At p s m meth c b L xs) : W p l e room_1 s m #[Value.ref b] below meth c s.heap [] 0 0 (lw_Z below #[Value.ref b] s) (entryFrame m ([Value.ref b] : List Value).toArray 4) := by
  obtain ⟨K, C0⟩ := law_cx L0
  have hr := L0.2.2.1
  have hX := L0.2.2.2.2.2.2.1
  have hbl := L0.2.2.2.2.2.2.2.1
  have hl := lv_entry ([.ref b]) (n := 4) (Nat.le_of_ble_eq_true rfl)
  rw [lg_entry_eq]
  generalize (lg_sl ([.ref b]) ++ List.replicate (4 - (lg_sl ([.ref b])).length) Slot.unset).toArray = ls at hl ⊢
  have hl : lv_has ls 4 [(0, .ref b)] := hl
  have key : ∀ (ad : Nat → Nat) (h : Hp), G p l e room_1 s m #[Value.ref b] below meth c K (fun q : Nat => s.heap.size ≤ q) [] 4 0 0 (lw_Z below #[Value.ref b] s) 0 [(0, .ref b)] [] ad h := by
    intro ad h
    obtain ⟨h1, h2, z1, z2, hI⟩ := HM.1 h
    refine g_new C0 CK_10 CT_10.1 0 [some none, none, none, some none, some none, some none, some none, some none, some none, some none, some none, some none, some none, some none] ⟨t_104, t_105, t_85⟩ (by decide +kernel) raw_10 (by decide +kernel) (by decide) (by decide) d_law_0 (fun ad1 hag1 => ?_)
    refine g_dup C0 d_law_3 rfl ?_
    refine g_initN C0 [] [2, 10, 11, 12, 15, 16, 17, 20, 21, 22, 25, 26, 27, 30, 33, 35, 36, 60, 61, 62, 63, 64, 40, 41, 42, 43, 45, 46, 47, 48, 49, 55, 56, 31, 32] [0] [0, 2, 10, 11, 12, 15, 16, 17, 20, 21, 22, 25, 26, 27, 30, 33, 35, 36, 60, 61, 62, 63, 64, 40, 41, 42, 43, 45, 46, 47, 48, 49, 55, 56] (m_C_init l K ad1 (hrow h 0 (fun _ => 0)) N z1) 0 rfl ⟨t_106, t_107, t_85, t_108⟩ cd_C_init (by decide) (by decide +kernel) nd_C_init_0 (by decide +kernel) (by decide +kernel) (by decide +kernel) (by decide +kernel) rfl (by decide +kernel) (by decide +kernel) (by decide +kernel) (by decide +kernel) rfl rfl (Nat.le_of_ble_eq_true rfl) d_law_4 (fun ad2 hag2 => ?_)
    rw [← hag2 0 (by decide)]
    refine g_part (rs' := WC) (by decide +kernel) nd_C ?_
    refine g_heap (h1 := mx lC h1 (hrow h 0 (fun _ => 0))) (mx_perm (by decide +kernel) _ _) ?_
    refine g_astore_n C0 [(1, .ref (ad2 0)), (0, .ref b)] d_law_7 rfl (by decide) rfl ?_
    refine g_new C0 CK_11 CT_11.1 100 [some none, some none, some none, some none, some none, none, some none, none, none, none, none, none, none, none, none, some none, none, some none, none, none, some none, some none, none, none, some none, some none, none, none, none, some none, some none, some none, none] ⟨t_1079, t_1080, t_97⟩ (by decide +kernel) raw_11 (by decide +kernel) (by decide) (by decide) d_law_8 (fun ad3 hag3 => ?_)
    rw [← hag3 0 (by decide)]
    refine g_dup C0 d_law_11 rfl ?_
    refine g_initN C0 WC [101, 102, 103, 104, 105, 106, 107, 108, 109, 110, 111, 112, 113, 114, 115] [100] [100, 101, 102, 103, 104, 105, 106, 107, 108, 109, 110, 111, 112, 113, 114, 115] (m_M_init l K ad3 (hrow (mx lC h1 (hrow h 0 (fun _ => 0))) 100 (fun _ => 0)) N z2) 0 rfl ⟨t_1081, t_1082, t_97, t_1083⟩ cd_M_init (by decide) (by decide +kernel) nd_M_init_0 (by decide +kernel) (by decide +kernel) (by decide +kernel) (by decide +kernel) rfl (by decide +kernel) (by decide +kernel) (by decide +kernel) (by decide +kernel) rfl rfl (Nat.le_of_ble_eq_true rfl) d_law_12 (fun ad4 hag4 => ?_)
    rw [← hag4 0 (by decide), ← hag4 100 (by decide)]
    refine g_part (rs' := WLw false false) (by decide +kernel) (nd_WLw false false) ?_
    refine g_heap (h1 := mx lM h2 (hrow (mx lC h1 (hrow h 0 (fun _ => 0))) 100 (fun _ => 0))) (mx_perm (by decide +kernel) _ _) ?_
    refine g_astore_n C0 [(2, .ref (ad4 100)), (1, .ref (ad4 0)), (0, .ref b)] d_law_15 rfl (by decide) rfl ?_
    refine g_iconst C0 (v := nI 0) d_law_16 (by decide) ?_
    refine g_istore_n C0 [(3, .int (nI 0)), (2, .ref (ad4 100)), (1, .ref (ad4 0)), (0, .ref b)] d_law_17 rfl (by decide) rfl ?_
    refine g_sub [3, 2, 1, 0] (L' := [(0, .ref b), (1, .ref (ad4 0)), (2, .ref (ad4 100)), (3, .int (nI 0))]) rfl ?_
    refine g_widen (k := 50 + 0) (n := 138783 + 20 * 0) (by decide) (by decide) ?_
    exact law_loop C0 hX hbl hL hr HM (L + 1) 0 0 false false ad4 _ (Nat.le_refl _) (Nat.zero_le _) (by omega) hI
  exact key (fun _ => 0) (fun _ _ => 0) s.heap [] ls (fun k q hq => by simp [wd] at hq) ⟨fun i j x y hi => by simp [wd] at hi, fun k q hq => by simp [wd] at hq⟩ va_S.rf hl
