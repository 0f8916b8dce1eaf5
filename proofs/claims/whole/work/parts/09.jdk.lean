/-! Arrays.fill over ints, String.indexOf of a character: by hand -/
abbrev y_fill : MethodName := ⟨"java/util/Arrays", "fill", "([II)V"⟩
theorem cd_fill : cwd y_fill 2 := by decide +kernel
theorem d_fill_0 : decode prog_19_method_103_code 0 = .ok (.iconst 0, 1) := by decide +kernel
theorem d_fill_1 : decode prog_19_method_103_code 1 = .ok (.istore_n 2, 1) := by decide +kernel
theorem d_fill_2 : decode prog_19_method_103_code 2 = .ok (.aload_n 0, 1) := by decide +kernel
theorem d_fill_3 : decode prog_19_method_103_code 3 = .ok (.arraylength, 1) := by decide +kernel
theorem d_fill_4 : decode prog_19_method_103_code 4 = .ok (.istore_n 3, 1) := by decide +kernel
theorem d_fill_5 : decode prog_19_method_103_code 5 = .ok (.iload_n 2, 1) := by decide +kernel
theorem d_fill_6 : decode prog_19_method_103_code 6 = .ok (.iload_n 3, 1) := by decide +kernel
theorem d_fill_7 : decode prog_19_method_103_code 7 = .ok (.if_icmp .ge 13, 3) := by decide +kernel
theorem d_fill_10 : decode prog_19_method_103_code 10 = .ok (.aload_n 0, 1) := by decide +kernel
theorem d_fill_11 : decode prog_19_method_103_code 11 = .ok (.iload_n 2, 1) := by decide +kernel
theorem d_fill_12 : decode prog_19_method_103_code 12 = .ok (.iload_n 1, 1) := by decide +kernel
theorem d_fill_13 : decode prog_19_method_103_code 13 = .ok (.iastore, 1) := by decide +kernel
theorem d_fill_14 : decode prog_19_method_103_code 14 = .ok (.iinc 2 1, 3) := by decide +kernel
theorem d_fill_17 : decode prog_19_method_103_code 17 = .ok (.goto (-12), 3) := by decide +kernel
theorem d_fill_20 : decode prog_19_method_103_code 20 = .ok (.return_, 1) := by decide +kernel
theorem tF : Cond.static y_fill ∈ TB ∧ Cond.initialized "java/util/Arrays" ∈ TB ∧ Cond.code y_fill prog_19_method_103_code 4 none ∈ TB := ⟨tb_of 119 (by decide +kernel) rfl, tb_of 87 (by decide +kernel) rfl, tb_of 120 (by decide +kernel) rfl⟩
theorem tI : Cond.instanceMethod y_JString_indexOf0 ∈ TB ∧ Cond.selects "java/lang/String" y_JString_indexOf0 y_JString_indexOf0 ∈ TB ∧ Cond.initialized "java/lang/String" ∈ TB ∧ Cond.code y_JString_indexOf0 prog_16_method_79_code 2 (some .int) ∈ TB := ⟨tb_of 563 (by decide +kernel) rfl, tb_of 564 (by decide +kernel) rfl, tb_of 99 (by decide +kernel) rfl, tb_of 565 (by decide +kernel) rfl⟩
theorem nd_one (r : Nat) (sp : Sp) : nd [(r, sp)] = true := by simp [nd, va_nd]
section FILL
variable {p : Program} {l : Launch} {e : Env} {R : Room} {s : State} {m : MethodId} {args : Array Value} {below : List Frame} {meth : Method} {c : Code} {K : KT} {A : Nat → Prop} {rs : Wl} {nL cells slots : Nat} {Q : State → Prop} {pc : Nat} {L : List (Nat × Value)} {st : List Value} {ad : Nat → Nat} {h : Hp} {cc : ByteArray} {own : String}
theorem fill_loop (C0 : Cx p s m args meth c prog_19_method_103_code "java/util/Arrays" 4 K A) (hr : meth.sig.returnType = none) (r n : Nat) (hn : n < 2 ^ 31) (x : Int32) : ∀ (f k : Nat), k ≤ n → n - k < f →
    G p l e R s m args below meth c K A [(r, .inr (.inl (0, n)))] 4 0 0 (QV s args below K A [(r, .inr (.inl (0, n)))] 0 0 ad (hrow h r (filled n (h r) x))) 5 [(3, .int (nI n)), (2, .int (nI k)), (0, .ref (ad r)), (1, .int x)] [] ad (hrow h r (filled k (h r) x)) := by
  intro f
  induction f with
  | zero => intro k _ h2; omega
  | succ f ih =>
    intro k hk hf
    refine g_iload_n C0 1 d_fill_5 rfl rfl ?_
    refine g_iload_n C0 0 d_fill_6 rfl rfl ?_
    refine g_icmp_ge C0 (tgt := 20) d_fill_7 (by decide) (fun c_ => ?_) (fun c_ => ?_)
    · have hkn : k = n := by
        rcases Nat.lt_or_ge k n with q | q
        · exact absurd c_ (nI_ge q hn)
        · omega
      subst hkn
      exact g_vret C0 hr d_fill_20
    · have hlt : k < n := by
        rcases Nat.lt_or_ge k n with q | q
        · exact q
        · exact absurd (nI_le q (by omega)) c_
      refine g_aload_n C0 2 d_fill_10 rfl rfl ?_
      refine g_iload_n C0 1 d_fill_11 rfl rfl ?_
      refine g_iload_n C0 3 d_fill_12 rfl rfl ?_
      refine g_iast C0 0 rfl (nd_one _ _) (vp_in_nI hlt (by omega)) d_fill_13 ?_
      refine g_iinc C0 1 [(2, .int (nI (k + 1))), (3, .int (nI n)), (0, .ref (ad r)), (1, .int x)] d_fill_14 rfl (by rw [nI_succ]; rfl) (by decide) rfl ?_
      refine g_goto C0 (tgt := 5) d_fill_17 (by decide) ?_
      refine g_sub [1, 0, 2, 3] (L' := [(3, .int (nI n)), (2, .int (nI (k + 1))), (0, .ref (ad r)), (1, .int x)]) rfl ?_
      refine g_heap (h1 := hrow h r (filled (k + 1) (h r) x)) ?_ (ih (k + 1) hlt (by omega))
      funext q j
      unfold hset hrow upd filled
      rw [nI_clamp (by omega : k < 2 ^ 31)]
      by_cases hq : q = r
      · simp only [hq, if_true]
        by_cases hj : j = k
        · simp [hj]
        · simp only [hj, if_false]
          by_cases hj2 : j < k
          · have h9 : j < k + 1 := by omega
            simp only [hj2, h9, if_true]
          · have h9 : ¬ j < k + 1 := by omega
            simp only [hj2, h9, if_false]
      · simp [hq]
theorem m_fill (l : Launch) (K : KT) (ad : Nat → Nat) (h : Hp) (r n : Nat) (hn : n < 2 ^ 31) (x : Int32) : ConV l y_fill prog_19_method_103_code 4 none { frames := 0, cells := 0, slots := 0, locals := 0 } K [(r, .inr (.inl (0, n)))] ad h [.ref (ad r), .int x] (hrow h r (filled n (h r) x)) := fun sz =>
  con_start [(0, .ref (ad r)), (1, .int x)] (by decide +kernel) rfl (Nat.le_of_ble_eq_true rfl) (fun p e s m args below meth c C0 hr hnm hsz => by
    refine g_iconst C0 (v := 0) d_fill_0 (by decide) ?_
    refine g_istore_n C0 [(2, .int 0), (0, .ref (ad r)), (1, .int x)] d_fill_1 rfl (by decide) rfl ?_
    refine g_aload_n C0 1 d_fill_2 rfl rfl ?_
    refine g_alen C0 0 rfl rfl (v := nI n) rfl d_fill_3 ?_
    refine g_istore_n C0 [(3, .int (nI n)), (2, .int 0), (0, .ref (ad r)), (1, .int x)] d_fill_4 rfl (by decide) rfl ?_
    refine g_heap (h1 := hrow h r (filled 0 (h r) x)) ?_ (fill_loop C0 hr r n hn x (n + 1) 0 (Nat.zero_le _) (by omega))
    have : filled 0 (h r) x = h r := by funext j; simp [filled]
    rw [this, hrow_self])
theorem g_fill (C0 : Cx p s m args meth c cc own nL K A) {idx : Nat} (hw : Cond.methodLink own idx y_fill ∈ TB) (hR : cwr (cells := cells) (slots := slots) { frames := 0, cells := 0, slots := 0, locals := 0 } R 4) (q0 : Nat) {r n : Nat} (hq : rs[q0]? = some (r, .inr (.inl (0, n)))) (hn2 : n < 2 ^ 31) (hn : nd rs = true) {x : Int32} (hcat : (st.map fun v => v.category).sum ≤ 8) (hdg : decode cc pc = .ok (.invokestatic idx, 3))
    (k : G p l e R s m args below meth c K A rs nL cells slots Q (pc + 3) L st ad (hrow h r (filled n (h r) x))) : G p l e R s m args below meth c K A rs nL cells slots Q pc L (.int x :: .ref (ad r) :: st) ad h := by
  have hs : subW [(r, .inr (.inl (0, n)))] rs = true := by
    refine List.all_eq_true.mpr fun y hy => List.any_eq_true.mpr ⟨y, ?_, ?_⟩
    · rw [List.mem_singleton.mp hy]; exact List.mem_of_getElem? hq
    · rw [List.mem_singleton.mp hy]
      show (decide (r = r) && decide ((0, n) = (0, n))) = true
      simp
  refine g_callv (rs' := [(r, .inr (.inl (0, n)))]) C0 hn [r] rfl hs (runS C0 (m_fill l K ad h r n hn2 x) 2 ⟨hw, tF.1, tF.2.1, tF.2.2⟩ cd_fill hR hs (nd_one _ _) rfl rfl hcat hdg) ?_
  refine g_heap (h1 := hrow h r (filled n (h r) x)) ?_ k
  funext q
  unfold mx hrow
  by_cases hq : q = r
  · simp [hq]
  · simp [hq]
end FILL
theorem idxL_none : ∀ (l : List Int32) (k : Nat) (ch : Int32), (∀ a ∈ l, ¬ a = ch) → idxL l k ch = -1
  | [], _, _, _ => rfl
  | a :: l, k, ch, h => by
    unfold idxL
    rw [if_neg (h a List.mem_cons_self)]
    exact idxL_none l (k + 1) ch (fun b hb => h b (List.mem_cons_of_mem _ hb))
theorem strB_in : ∀ i, i < 3 → ∀ a ∈ strB.getD i [], 0 ≤ a ∧ a ≤ 255 := by decide +kernel
set_option maxRecDepth 100000 in
theorem idx_in : ∀ i, i < 3 → ∀ j, j < 256 → K_JString_indexOf0 100 i (nI j) = some (idxK i (nI j)) := by decide +kernel
theorem idx_ok {i : Nat} (hi : i < 3) (x : Int32) : K_JString_indexOf0 100 i x = some (idxK i x) := by
  by_cases h1 : x < 0
  · have e : idxK i x = -1 := idxL_none _ _ _ (fun a ha e => by
      have := (strB_in i hi a ha).1
      rw [e] at this
      exact absurd h1 (Int32.not_lt.mpr this))
    rw [e]
    simp [K_JString_indexOf0, K_JString_indexOf1, K_JStringLatin1_indexOf, K_JStringLatin1_canEncode, K_JString_length, K_JString_coder, bd, h1]
  · by_cases h2 : 255 < x
    · have e : idxK i x = -1 := idxL_none _ _ _ (fun a ha e => by
        have := (strB_in i hi a ha).2
        rw [e] at this
        exact absurd h2 (Int32.not_lt.mpr this))
      rw [e]
      simp [K_JString_indexOf0, K_JString_indexOf1, K_JStringLatin1_indexOf, K_JStringLatin1_canEncode, K_JString_length, K_JString_coder, bd, h1, h2]
    · have h3 : 0 ≤ x.toInt := by
        have := Int32.not_lt.mp h1
        exact Int32.le_iff_toInt_le.mp this
      have h4 : x.toInt ≤ 255 := by
        have := Int32.not_lt.mp h2
        exact Int32.le_iff_toInt_le.mp this
      have e : x = nI x.toInt.toNat := by
        apply Int32.toInt_inj.mp
        rw [nI_toInt (by omega)]
        omega
      rw [e]
      exact idx_in i hi _ (by omega)
section IDX
variable {p : Program} {l : Launch} {e : Env} {R : Room} {s : State} {m : MethodId} {args : Array Value} {below : List Frame} {meth : Method} {c : Code} {K : KT} {A : Nat → Prop} {rs : Wl} {nL cells slots : Nat} {Q : State → Prop} {pc : Nat} {L : List (Nat × Value)} {st : List Value} {ad : Nat → Nat} {h : Hp} {cc : ByteArray} {own : String}
theorem g_idx (C0 : Cx p s m args meth c cc own nL K A) (hn : nd rs = true) {idx : Nat} (hw : Cond.methodLink own idx y_JString_indexOf0 ∈ TB) (hR : cwr (cells := cells) (slots := slots) rm_JString_indexOf0 R 2) {i : Nat} (hi : i < 3) {x : Int32} (hcat : (st.map fun v => v.category).sum ≤ 8) (hdg : decode cc pc = .ok (.invokevirtual idx, 3))
    (k : G p l e R s m args below meth c K A rs nL cells slots Q (pc + 3) L (.int (idxK i x) :: st) ad h) : G p l e R s m args below meth c K A rs nL cells slots Q pc L (.int x :: .ref (K.2.2 (2 + i)) :: st) ad h :=
  g_calliP (rs' := WE) C0 hn [] rfl rfl (runVX C0 (m_JString_indexOf0 l K ad h 100 i x hi (idx_ok hi x)) 1 rfl ⟨hw, tI.1, tI.2.1, tI.2.2.1, tI.2.2.2⟩ cd_JString_indexOf0 hR hi rfl nd_E rfl rfl hcat hdg) k
end IDX
