/-! more rows: named values and heaps, pure calls, Math, String.indexOf, Arrays.fill -/
def filled (n : Nat) (f : Nat → Int32) (v : Int32) : Nat → Int32 := fun j => if j < n then v else f j
def idxL (l : List Int32) (k : Nat) (ch : Int32) : Int32 := match l with
  | [] => -1
  | a :: l => if a = ch then nI k else idxL l (k + 1) ch
def idxK (i : Nat) (ch : Int32) : Int32 := idxL (strB.getD i []) 0 ch
theorem i32_ne {x : Int32} {j : Int} (h : ¬ x = Int32.ofInt j) (h1 : -2147483648 ≤ j) (h2 : j < 2147483648) : x.toInt ≠ j := fun e => h (by rw [← e, Int32.ofInt_toInt])
theorem sbW_self (rs : Wl) : subW rs rs = true := by
  refine List.all_eq_true.mpr fun x hx => List.any_eq_true.mpr ⟨x, hx, ?_⟩
  have : ∀ a : Sp, spEq a a = true := by
    intro a
    match a with
    | .inl a => exact decide_eq_true rfl
    | .inr (.inl a) => exact decide_eq_true rfl
    | .inr (.inr a) => exact decide_eq_true rfl
  rw [this]
  simp
theorem tM_max : Cond.static Lib.Math.max.name ∈ TB ∧ Cond.initialized "java/lang/Math" ∈ TB ∧ Cond.code Lib.Math.max.name Lib.Math.max.code 2 (some .int) ∈ TB := ⟨tb_of 387 (by decide +kernel) rfl, tb_of 96 (by decide +kernel) rfl, tb_of 388 (by decide +kernel) rfl⟩
theorem tM_min : Cond.static Lib.Math.min.name ∈ TB ∧ Cond.initialized "java/lang/Math" ∈ TB ∧ Cond.code Lib.Math.min.name Lib.Math.min.code 2 (some .int) ∈ TB := ⟨tb_of 430 (by decide +kernel) rfl, tb_of 96 (by decide +kernel) rfl, tb_of 431 (by decide +kernel) rfl⟩
theorem tM_abs : Cond.static Lib.Math.abs.name ∈ TB ∧ Cond.initialized "java/lang/Math" ∈ TB ∧ Cond.code Lib.Math.abs.name Lib.Math.abs.code 1 (some .int) ∈ TB := ⟨tb_of 416 (by decide +kernel) rfl, tb_of 96 (by decide +kernel) rfl, tb_of 417 (by decide +kernel) rfl⟩
theorem nz0 : narrow .boolean (.int 0) = .int 0 := by decide +kernel
theorem nz1 : narrow .boolean (.int 1) = .int 1 := by decide +kernel
section MORE
variable {p : Program} {l : Launch} {e : Env} {R : Room} {s : State} {m : MethodId} {args : Array Value} {below : List Frame} {meth : Method} {c : Code} {K : KT} {A : Nat → Prop} {rs : Wl} {nL cells slots : Nat} {Q : State → Prop} {pc : Nat} {L : List (Nat × Value)} {st : List Value} {ad : Nat → Nat} {h : Hp} {cc : ByteArray} {own : String}
theorem g_top {x y : Int32} (ee : y = x) (k : G p l e R s m args below meth c K A rs nL cells slots Q pc L (.int y :: st) ad h) : G p l e R s m args below meth c K A rs nL cells slots Q pc L (.int x :: st) ad h := ee ▸ k
theorem g_heap {h1 h2 : Hp} (ee : h1 = h2) (k : G p l e R s m args below meth c K A rs nL cells slots Q pc L st ad h1) : G p l e R s m args below meth c K A rs nL cells slots Q pc L st ad h2 := ee ▸ k
theorem g_calliP (C0 : Cx p s m args meth c cc own nL K A) {rs' : Wl} {st0 rest : List Value} {r : Int32} (hn : nd rs = true) (ls : List Nat) (hls : rs'.map (fun x => x.1) = ls) (hs : subW rs' rs = true)
    (hr : RunI p l e R s m args below meth c K A rs nL cells slots pc L ad h rs' st0 rest (fun sz => va_Qi (fun r0 (_ : Unit) => r0 = r) (fun _ t => Post K rs' ad h t) (va_A (wd K.2.1 ad h rs') sz)))
    (k : G p l e R s m args below meth c K A rs nL cells slots Q (pc + 3) L (.int r :: rest) ad h) : G p l e R s m args below meth c K A rs nL cells slots Q pc L st0 ad h :=
  g_calli C0 hn ls hls hs hr (by rw [mx_self]; exact k)
theorem g_callvP (C0 : Cx p s m args meth c cc own nL K A) {rs' : Wl} {st0 rest : List Value} (hn : nd rs = true) (ls : List Nat) (hls : rs'.map (fun x => x.1) = ls) (hs : subW rs' rs = true)
    (hr : RunI p l e R s m args below meth c K A rs nL cells slots pc L ad h rs' st0 rest (fun sz => va_Qv (fun (_ : Unit) => True) (fun _ t => Post K rs' ad h t) (va_A (wd K.2.1 ad h rs') sz)))
    (k : G p l e R s m args below meth c K A rs nL cells slots Q (pc + 3) L rest ad h) : G p l e R s m args below meth c K A rs nL cells slots Q pc L st0 ad h :=
  g_callv C0 hn ls hls hs hr (by rw [mx_self]; exact k)
theorem g_ldcS (C0 : Cx p s m args meth c cc "CanoeSides$Reader" nL K A) (i : Nat) (hi : i < 3) (hdg : decode cc pc = .ok (.ldc (strK i), 2))
    (k : G p l e R s m args below meth c K A rs nL cells slots Q (pc + 2) L (.ref (K.2.2 (2 + i)) :: st) ad h) : G p l e R s m args below meth c K A rs nL cells slots Q pc L st ad h := fun H locs ls h1 h2 h3 h4 =>
  va_ldcS C0.1 C0.2.1 C0.2.2.2.1 (C0.2.2.2.2.2.2.2.1.2.2.1 i hi) hdg (k H locs ls h1 h2 h3 h4)
abbrev mwok (R : Room) (st : List Value) (cells slots : Nat) : Prop := 1 ≤ R.frames ∧ (st.map fun v => v.category).sum + 13 ≤ R.locals ∧ cells ≤ R.cells ∧ slots ≤ R.slots
theorem runVX {y : MethodName} {b : ByteArray} {nC idx : Nat} {ret : Option FieldType} {rm : Room} {rs' : Wl} {As rest st0 : List Value} {i : Nat} {Qc : Nat → Array Value → State → Outcome → State → Prop} (C0 : Cx p s m args meth c cc own nL K A)
    (hM : ∀ sz, Met l y (.code y b nC ret :: TB) rm (va_Pc (.ref (K.2.2 (2 + i)) :: As) (Pre K rs' ad h sz)) (Qc sz) 0 0 (va_A (wd K.2.1 ad h rs') sz)) (n : Nat) (hy : y.cls = "java/lang/String") (hw : Cond.methodLink own idx y ∈ TB ∧ Cond.instanceMethod y ∈ TB ∧ Cond.selects "java/lang/String" y y ∈ TB ∧ Cond.initialized "java/lang/String" ∈ TB ∧ Cond.code y b nC ret ∈ TB) (hd : cwd y n) (hR : cwr (cells := cells) (slots := slots) rm R nC)
    (hi : i < 3) (hs : subW rs' rs = true) (hn : nd rs' = true) (hst : st0 = As.reverse ++ .ref (K.2.2 (2 + i)) :: rest) (hlen : As.length = n) (hcat : (rest.map fun v => v.category).sum ≤ 8) (hdg : decode cc pc = .ok (.invokevirtual idx, 3)) :
    RunI p l e R s m args below meth c K A rs nL cells slots pc L ad h rs' st0 rest Qc := by
  intro H locs ls h1 h2 h3 h4
  have ht := C0.2.2.2.2.1
  have hw3 := ht _ hw.2.2.1
  have hw4 := ht _ hw.2.2.2.1
  rw [← hy] at hw3 hw4
  have hrc := vk_recv (i := i) C0.2.2.2.2.2.2.2.1.2.2.2.2.2.2.2.2 hi h3
  rw [← hy] at hrc
  exact ⟨_, va_runV (As := As) (rest := rest) (Ts := TB) ⟨C0.1, C0.2.1, C0.2.2.1, C0.2.2.2.1, ht⟩ (hM H.size) ⟨callB_of n ht (TB_in hw.2.2.2.2) rfl hR.2.2.1 hR.2.2.2.1 hw4 (ht _ hw.1) hd ⟨hR.1, hR.2.1⟩, ht _ hw.2.1, hw3⟩
    ⟨Pre_blind _ _ _ _ _ _, hrc, fun U hU hW => ⟨rfl, pre_of C0 hs hn h1 h2 h3 hU hW⟩⟩ rfl hlen h4.1 hst (lv_room hcat) hdg ⟨hR.2.2.2.2.1, hR.2.2.2.2.2⟩⟩
theorem nb0 : narrow .byte (.int 0) = .int 0 := by decide +kernel
theorem g_coder (C0 : Cx p s m args meth c cc own nL K A) {i : Nat} (hi : i < 3) {idx : Nat} (hw : Cond.fieldLink own idx "java/lang/String" "coder" "B" ∈ TB) (hdg : decode cc pc = .ok (.getfield idx, 3))
    (k : G p l e R s m args below meth c K A rs nL cells slots Q (pc + 3) L (.int 0 :: st) ad h) : G p l e R s m args below meth c K A rs nL cells slots Q pc L (.ref (K.2.2 (2 + i)) :: st) ad h := fun H locs ls h1 h2 h3 h4 =>
  vk_getf C0.1 C0.2.1 (C0.2.2.2.2.2.2.2.1.2.2.2.2.2.2.2.2.1 i hi).2.1 h3 C0.2.2.2.1 (C0.2.2.2.2.1 _ hw) (fun _ z => z) hdg (k H locs ls h1 h2 h3 h4)
theorem g_value (C0 : Cx p s m args meth c cc own nL K A) {i : Nat} (hi : i < 3) {idx : Nat} (hw : Cond.fieldLink own idx "java/lang/String" "value" "[B" ∈ TB) (hdg : decode cc pc = .ok (.getfield idx, 3))
    (k : G p l e R s m args below meth c K A rs nL cells slots Q (pc + 3) L (.ref (K.2.2 (5 + i)) :: st) ad h) : G p l e R s m args below meth c K A rs nL cells slots Q pc L (.ref (K.2.2 (2 + i)) :: st) ad h := fun H locs ls h1 h2 h3 h4 =>
  vk_getf C0.1 C0.2.1 (C0.2.2.2.2.2.2.2.1.2.2.2.2.2.2.2.2.1 i hi).2.2.1 h3 C0.2.2.2.1 (C0.2.2.2.2.1 _ hw) (fun _ z => z) hdg (k H locs ls h1 h2 h3 h4)
theorem g_compact (C0 : Cx p s m args meth c cc own nL K A) {idx : Nat} (hw : Cond.fieldLink own idx "java/lang/String" "COMPACT_STRINGS" "Z" ∈ TB) (hdg : decode cc pc = .ok (.getstatic idx, 3))
    (k : G p l e R s m args below meth c K A rs nL cells slots Q (pc + 3) L (.int 1 :: st) ad h) : G p l e R s m args below meth c K A rs nL cells slots Q pc L st ad h := fun H locs ls h1 h2 h3 h4 =>
  va_gets C0.1 C0.2.1 C0.2.2.2.2.2.2.2.1.2.2.2.2.2.2.2.1 h3 C0.2.2.2.1 (C0.2.2.2.2.1 _ hw) (fun _ z => z) hdg (k H locs ls h1 h2 h3 h4)
theorem g_alenS (C0 : Cx p s m args meth c cc own nL K A) {i : Nat} (hi : i < 3) (hdg : decode cc pc = .ok (.arraylength, 1))
    (k : G p l e R s m args below meth c K A rs nL cells slots Q (pc + 1) L (.int (nI (strL.getD i 0)) :: st) ad h) : G p l e R s m args below meth c K A rs nL cells slots Q pc L (.ref (K.2.2 (5 + i)) :: st) ad h := fun H locs ls h1 h2 h3 h4 =>
  va_tlen C0.1 C0.2.1 (C0.2.2.2.2.2.2.2.1.2.2.2.2.2.2.2.2.1 i hi).2.2.2 h3 rfl hdg (k H locs ls h1 h2 h3 h4)
theorem g_baldS (C0 : Cx p s m args meth c cc own nL K A) {i : Nat} (hi : i < 3) {x : Int32} (hin : vp_in x (strL.getD i 0)) (hdg : decode cc pc = .ok (.baload, 1))
    (k : G p l e R s m args below meth c K A rs nL cells slots Q (pc + 1) L (.int ((strB.getD i []).getD x.toNatClampNeg 0) :: st) ad h) : G p l e R s m args below meth c K A rs nL cells slots Q pc L (.int x :: .ref (K.2.2 (5 + i)) :: st) ad h := fun H locs ls h1 h2 h3 h4 =>
  va_tb C0.1 C0.2.1 (C0.2.2.2.2.2.2.2.1.2.2.2.2.2.2.2.2.1 i hi).2.2.2 h3 hin rfl hdg (k H locs ls h1 h2 h3 h4)
theorem g_i2b (C0 : Cx p s m args meth c cc own nL K A) {x : Int32} (hdg : decode cc pc = .ok (.i2b, 1))
    (k : G p l e R s m args below meth c K A rs nL cells slots Q (pc + 1) L (.int x.toInt8.toInt32 :: st) ad h) : G p l e R s m args below meth c K A rs nL cells slots Q pc L (.int x :: st) ad h := fun H locs ls h1 h2 h3 h4 => lv_i2b C0.1 C0.2.1 hdg rfl (k H locs ls h1 h2 h3 h4)
theorem g_max (C0 : Cx p s m args meth c cc own nL K A) {idx : Nat} {x y : Int32} (hw : Cond.methodLink own idx Lib.Math.max.name ∈ TB) (hR : mwok R st cells slots) (hdg : decode cc pc = .ok (.invokestatic idx, 3))
    (k : G p l e R s m args below meth c K A rs nL cells slots Q (pc + 3) L (.int (if x < y then y else x) :: st) ad h) : G p l e R s m args below meth c K A rs nL cells slots Q pc L (.int y :: .int x :: st) ad h := fun H locs ls h1 h2 h3 h4 =>
  va_mmax C0.1 C0.2.1 (C0.2.2.1.trans h4.1.symm) C0.2.2.2.1 (C0.2.2.2.2.1 _ hw) (C0.2.2.2.2.1 _ tM_max.1) (C0.2.2.2.2.1 _ tM_max.2.1) (C0.2.2.2.2.1 _ tM_max.2.2) hR.1 hR.2.1 hR.2.2.1 hR.2.2.2 hdg (k H locs ls h1 h2 h3 h4)
theorem g_min (C0 : Cx p s m args meth c cc own nL K A) {idx : Nat} {x y : Int32} (hw : Cond.methodLink own idx Lib.Math.min.name ∈ TB) (hR : mwok R st cells slots) (hdg : decode cc pc = .ok (.invokestatic idx, 3))
    (k : G p l e R s m args below meth c K A rs nL cells slots Q (pc + 3) L (.int (if y < x then y else x) :: st) ad h) : G p l e R s m args below meth c K A rs nL cells slots Q pc L (.int y :: .int x :: st) ad h := fun H locs ls h1 h2 h3 h4 =>
  va_mmin C0.1 C0.2.1 (C0.2.2.1.trans h4.1.symm) C0.2.2.2.1 (C0.2.2.2.2.1 _ hw) (C0.2.2.2.2.1 _ tM_min.1) (C0.2.2.2.2.1 _ tM_min.2.1) (C0.2.2.2.2.1 _ tM_min.2.2) hR.1 hR.2.1 hR.2.2.1 hR.2.2.2 hdg (k H locs ls h1 h2 h3 h4)
theorem g_abs (C0 : Cx p s m args meth c cc own nL K A) {idx : Nat} {x : Int32} (hw : Cond.methodLink own idx Lib.Math.abs.name ∈ TB) (hR : mwok R st cells slots) (hdg : decode cc pc = .ok (.invokestatic idx, 3))
    (k : G p l e R s m args below meth c K A rs nL cells slots Q (pc + 3) L (.int (if 0 ≤ x then x else 0 - x) :: st) ad h) : G p l e R s m args below meth c K A rs nL cells slots Q pc L (.int x :: st) ad h := fun H locs ls h1 h2 h3 h4 =>
  va_mabs C0.1 C0.2.1 (C0.2.2.1.trans h4.1.symm) C0.2.2.2.1 (C0.2.2.2.2.1 _ hw) (C0.2.2.2.2.1 _ tM_abs.1) (C0.2.2.2.2.1 _ tM_abs.2.1) (C0.2.2.2.2.1 _ tM_abs.2.2) hR.1 hR.2.1 hR.2.2.1 hR.2.2.2 hdg (k H locs ls h1 h2 h3 h4)
end MORE
