/-! THE CLAIM OUT OF ONE WALK OF THE LAW'S BODY. Your part is whole_start (and what it stands on); all else here is the same for every law, but numbers. -/
def R_law : String := "CanoeSidesLaw"
def lw_P (b : Addr) (xs : List Int32) (args : Array Value) (s : State) : Prop := args = #[.ref b] ∧ s.IntsAt b xs ∧ xs.length ≤ 256 ∧ (Jvm.Cond.and given_1 narrow_1).before args s = true
def lw_Q (_ : Array Value) (s : State) (o : Outcome) (t : State) : Prop := o = .returned (some (.int 1)) ∧ Framed s o t [] 600000 7302250
def lw_Z (below : List Frame) (a : Array Value) (s : State) : State → Prop := fun t => ∃ o, t.status = .running ∧ Ended t below o ∧ lw_Q a s o t
/-- the law's own end, with 1 on the stack, nothing written that was there before, its room as the claim has it -/
theorem lw_ret {p : Program} {l : Launch} {e : Env} {s : State} {m : MethodId} {below : List Frame} {meth : Method} {c : Code} {b : Nat} (hx : p.tables.exec = Jvm.exec) (hb : c.code = code) (hr : meth.sig.returnType = ret) (hlocks : meth.locks = false) {pc : Nat} {H : Heap} {ls : Array Slot} (hdg : decode code pc = .ok (.ireturn, 1)) : W p l e room_1 s m #[Value.ref b] below meth c H [] 600000 7302250 (lw_Z below #[Value.ref b] s) (F0 m pc ls [.int 1]) := by
  intro T hT X
  obtain ⟨fs, hret, hrun, hended, hW, hframe⟩ := X.leave (v := some (.int 1)) (hlocks := hlocks) (fun h => by rw [hr] at h; cases h)
  have hmeth' : T.vm.method? m = some meth := X.method'
  refine ⟨T.setFrames fs, ?_, .returned (some (.int 1)), hrun, hended, rfl, ⟨_, rfl⟩, hW, hframe⟩
  jvm_step X.here [X.here.top, hx, hb, hdg, hmeth', hr, ret, narrow_b1]
  (try refine ⟨rfl, ?_⟩); (try refine ⟨rfl, ?_⟩)
  first | (intro acts; rw [hret _ acts rfl rfl rfl]) | rw [hret _ _ rfl rfl rfl]
  exact Steps.refl _
/-- what holds at the law's entry: the machine, the code, the tables' words (any of lw_tbl by 'hts w (by decide +kernel)'), the script of L ints xs at the cell b, what the Statement gives of the start (any of its parts by flat_of_before) -/
def lw_At (p : Program) (s : State) (m : MethodId) (meth : Method) (c : Code) (b L : Nat) (xs : Nat → Int32) : Prop :=
  p.tables.exec = Jvm.exec ∧ c.code = code ∧ meth.sig.returnType = ret ∧ c.maxLocals = 4 ∧ s.vm.findClass R_law = some m.cls ∧ (∀ w ∈ lw_tbl, w.before #[Value.ref b] s = true) ∧ va_X b L xs s s.heap ∧ b < s.heap.size ∧ meth.locks = false ∧ (Jvm.Cond.and given_1 narrow_1).before #[Value.ref b] s = true
theorem tys_int {args : Array Value} {s : State} {ty : FieldType} (hra : ∀ cA : ClassId, va_RA s cA ty ↔ s.vm.findClass ("[" ++ ty.toString) = some cA) (h : (Cond.arrayClass ty).before args s = true) : ∃ cA : ClassId, ArrOfT s cA ty ∧ va_RA s cA ty := by
  obtain ⟨cA, kA, comp, h1, h2, h3⟩ := Cond.arrayClass_spec h
  exact ⟨cA, fun n z => ⟨fun k h => (by cases h), kA, h2, comp, h3⟩, (hra cA).mpr h1⟩
theorem tys_obj {args : Array Value} {s : State} {C : String} (h : (Cond.arrayOver (.object C)).before args s = true) : ∃ cA : ClassId, ArrOfT s cA (.object C) ∧ va_RA s cA (.object C) := by
  obtain ⟨comp, cA, kA, h1, h2, h3, h4, h5⟩ := Cond.arrayOver_spec h
  exact ⟨cA, fun n z => ⟨fun k h => (by cases h), kA, h3, comp, h4⟩, kA, comp, h3, h4, h1, h5⟩
def tmS (i : Nat) : Term := Term.string "CanoeSides$Reader" (strK i)
set_option maxHeartbeats 4000000 in
theorem law_cx {p : Program} {s : State} {m : MethodId} {meth : Method} {c : Code} {b L : Nat} {xs : Nat → Int32} (C0 : lw_At p s m meth c b L xs) : ∃ K : KT, Cx p s m #[Value.ref b] meth c code R_law 4 K (fun q : Nat => s.heap.size ≤ q) := by
  obtain ⟨hx, hb, hr, hml, hown, hts, hX, hbl, hlocks, hgv⟩ := C0
  have hs := flat_of_before _ hgv
  have hA : ∀ a : Nat, a < s.heap.size → ¬ (fun q : Nat => s.heap.size ≤ q) a := fun a h z => Nat.not_le.mpr h z
  have hTB : ∀ w ∈ TB, w.before #[Value.ref b] s = true := fun w hw => hts w (List.mem_filter.mp hw).1
  obtain ⟨c0, iS0, hK0⟩ := u_known (C := RX0) (T := TX0) (N := 3) (n := 3) hTB CI_0 (hts _ (List.mem_of_getElem? (i := 229) (by decide +kernel)))
  obtain ⟨c1, iS1, hK1⟩ := u_known (C := RX1) (T := TX1) (N := 9) (n := 9) hTB CI_1 (hts _ (List.mem_of_getElem? (i := 322) (by decide +kernel)))
  obtain ⟨c2, iS2, hK2⟩ := u_known (C := RX2) (T := TX2) (N := 3) (n := 3) hTB CI_2 (hts _ (List.mem_of_getElem? (i := 211) (by decide +kernel)))
  obtain ⟨c3, iS3, hK3⟩ := u_known (C := RX3) (T := TX3) (N := 4) (n := 4) hTB CI_3 (hts _ (List.mem_of_getElem? (i := 358) (by decide +kernel)))
  obtain ⟨c4, iS4, hK4⟩ := u_known (C := RX4) (T := TX4) (N := 6) (n := 6) hTB CI_4 (hts _ (List.mem_of_getElem? (i := 266) (by decide +kernel)))
  obtain ⟨c5, iS5, hK5⟩ := u_known (C := RX5) (T := TX5) (N := 3) (n := 3) hTB CI_5 (hts _ (List.mem_of_getElem? (i := 249) (by decide +kernel)))
  obtain ⟨c6, iS6, hK6⟩ := u_known (C := RX6) (T := TX6) (N := 8) (n := 8) hTB CI_6 (hts _ (List.mem_of_getElem? (i := 509) (by decide +kernel)))
  obtain ⟨c7, iS7, hK7⟩ := u_known (C := RX7) (T := TX7) (N := 13) (n := 13) hTB CI_7 (hts _ (List.mem_of_getElem? (i := 113) (by decide +kernel)))
  obtain ⟨c8, iS8, hK8⟩ := u_known (C := RX8) (T := TX8) (N := 7) (n := 7) hTB CI_8 (hts _ (List.mem_of_getElem? (i := 293) (by decide +kernel)))
  obtain ⟨c9, iS9, hK9⟩ := u_known (C := RX9) (T := TX9) (N := 3) (n := 3) hTB CI_9 (hts _ (List.mem_of_getElem? (i := 195) (by decide +kernel)))
  obtain ⟨c10, iS10, hK10⟩ := u_known (C := RX10) (T := TX10) (N := 14) (n := 14) hTB CI_10 (hts _ (List.mem_of_getElem? (i := 105) (by decide +kernel)))
  obtain ⟨c11, iS11, hK11⟩ := u_known (C := RX11) (T := TX11) (N := 33) (n := 33) hTB CI_11 (hts _ (List.mem_of_getElem? (i := 1080) (by decide +kernel)))
  obtain ⟨D, hKc⟩ : ∃ D : va_G, ∀ (k : Nat) (q : vw_C), classes[k]? = some q → u_Kn s q.1 q.2.1 q.2.2 (D.1 k) (D.2 k) := by
    refine ⟨(fun k => [c0, c1, c2, c3, c4, c5, c6, c7, c8, c9, c10, c11].getD k c0, fun k => [iS0, iS1, iS2, iS3, iS4, iS5, iS6, iS7, iS8, iS9, iS10, iS11].getD k iS0), ?_⟩
    intro k q hq
    match k, hq with
    | 0, hq => cases hq; exact hK0
    | 1, hq => cases hq; exact hK1
    | 2, hq => cases hq; exact hK2
    | 3, hq => cases hq; exact hK3
    | 4, hq => cases hq; exact hK4
    | 5, hq => cases hq; exact hK5
    | 6, hq => cases hq; exact hK6
    | 7, hq => cases hq; exact hK7
    | 8, hq => cases hq; exact hK8
    | 9, hq => cases hq; exact hK9
    | 10, hq => cases hq; exact hK10
    | 11, hq => cases hq; exact hK11
    | k + 12, hq => simp [classes] at hq
  obtain ⟨a0, ha0⟩ := tys_int (ty := .int) (fun _ => Iff.rfl) (hts _ (List.mem_of_getElem? (i := 193) (by decide +kernel)))
  obtain ⟨a1, ha1⟩ := tys_int (ty := .boolean) (fun _ => Iff.rfl) (hts _ (List.mem_of_getElem? (i := 1190) (by decide +kernel)))
  obtain ⟨a2, ha2⟩ := tys_obj (C := "CanoeSides$Boat") (hts _ (List.mem_of_getElem? (i := 247) (by decide +kernel)))
  obtain ⟨tE, hE1, hE2⟩ := va_Tof (tm := Term.static "CanoeSides" "EAST" "[I") (ty := .int) (N := 8) (f := fun j => .int (eastV j)) (A := fun q : Nat => s.heap.size ≤ q) (by decide) (hs _ (by decide +kernel)) (va_eqt (z := 8) (hs _ (by decide +kernel))) (fun j hj => by
    match j, hj with
    | 0, _ => exact va_eqt (z := 0) (hs _ (by decide +kernel))
    | 1, _ => exact va_eqt (z := 1) (hs _ (by decide +kernel))
    | 2, _ => exact va_eqt (z := 1) (hs _ (by decide +kernel))
    | 3, _ => exact va_eqt (z := 1) (hs _ (by decide +kernel))
    | 4, _ => exact va_eqt (z := 0) (hs _ (by decide +kernel))
    | 5, _ => exact va_eqt (z := -1) (hs _ (by decide +kernel))
    | 6, _ => exact va_eqt (z := -1) (hs _ (by decide +kernel))
    | 7, _ => exact va_eqt (z := -1) (hs _ (by decide +kernel))
    | j + 8, hj => omega) hA
  obtain ⟨tS, hS1, hS2⟩ := va_Tof (tm := Term.static "CanoeSides" "SOUTH" "[I") (ty := .int) (N := 8) (f := fun j => .int (southV j)) (A := fun q : Nat => s.heap.size ≤ q) (by decide) (hs _ (by decide +kernel)) (va_eqt (z := 8) (hs _ (by decide +kernel))) (fun j hj => by
    match j, hj with
    | 0, _ => exact va_eqt (z := -1) (hs _ (by decide +kernel))
    | 1, _ => exact va_eqt (z := -1) (hs _ (by decide +kernel))
    | 2, _ => exact va_eqt (z := 0) (hs _ (by decide +kernel))
    | 3, _ => exact va_eqt (z := 1) (hs _ (by decide +kernel))
    | 4, _ => exact va_eqt (z := 1) (hs _ (by decide +kernel))
    | 5, _ => exact va_eqt (z := 1) (hs _ (by decide +kernel))
    | 6, _ => exact va_eqt (z := 0) (hs _ (by decide +kernel))
    | 7, _ => exact va_eqt (z := -1) (hs _ (by decide +kernel))
    | j + 8, hj => omega) hA
  obtain ⟨adK, adV, hStr, hStrE⟩ := vk_Sof (N := 3) (tm := tmS) (len := strL) (byt := strB) (A := fun q : Nat => s.heap.size ≤ q) (args := #[Value.ref b])
    (fun i hi => by match i, hi with
      | 0, _ => decide
      | 1, _ => decide
      | 2, _ => decide
      | i + 3, hi => omega)
    (fun i hi => by match i, hi with
      | 0, _ => exact hs (Cond.exactly (Term.string "CanoeSides$Reader" 53) "java/lang/String") (by decide +kernel)
      | 1, _ => exact hs (Cond.exactly (Term.string "CanoeSides$Reader" 93) "java/lang/String") (by decide +kernel)
      | 2, _ => exact hs (Cond.exactly (Term.string "CanoeSides$Reader" 144) "java/lang/String") (by decide +kernel)
      | i + 3, hi => omega)
    (fun i hi => by match i, hi with
      | 0, _ => exact hs (Cond.eq (Term.field (Term.string "CanoeSides$Reader" 53) "java/lang/String" "coder" "B") (Term.int 0)) (by decide +kernel)
      | 1, _ => exact hs (Cond.eq (Term.field (Term.string "CanoeSides$Reader" 93) "java/lang/String" "coder" "B") (Term.int 0)) (by decide +kernel)
      | 2, _ => exact hs (Cond.eq (Term.field (Term.string "CanoeSides$Reader" 144) "java/lang/String" "coder" "B") (Term.int 0)) (by decide +kernel)
      | i + 3, hi => omega)
    (fun i hi => by match i, hi with
      | 0, _ => exact hs (Cond.arrayOf (Term.field (Term.string "CanoeSides$Reader" 53) "java/lang/String" "value" "[B") .byte) (by decide +kernel)
      | 1, _ => exact hs (Cond.arrayOf (Term.field (Term.string "CanoeSides$Reader" 93) "java/lang/String" "value" "[B") .byte) (by decide +kernel)
      | 2, _ => exact hs (Cond.arrayOf (Term.field (Term.string "CanoeSides$Reader" 144) "java/lang/String" "value" "[B") .byte) (by decide +kernel)
      | i + 3, hi => omega)
    (fun i hi => by match i, hi with
      | 0, _ => exact hs (Cond.eq (Term.length (Term.field (Term.string "CanoeSides$Reader" 53) "java/lang/String" "value" "[B")) (Term.int 6)) (by decide +kernel)
      | 1, _ => exact hs (Cond.eq (Term.length (Term.field (Term.string "CanoeSides$Reader" 93) "java/lang/String" "value" "[B")) (Term.int 7)) (by decide +kernel)
      | 2, _ => exact hs (Cond.eq (Term.length (Term.field (Term.string "CanoeSides$Reader" 144) "java/lang/String" "value" "[B")) (Term.int 4)) (by decide +kernel)
      | i + 3, hi => omega)
    (fun i hi j hj => by match i, hi with
      | 0, _ =>
        match j, hj with
        | 0, _ => exact hs (Cond.eq (Term.elem (Term.field (Term.string "CanoeSides$Reader" 53) "java/lang/String" "value" "[B") (Term.int 0)) (Term.int 114)) (by decide +kernel)
        | 1, _ => exact hs (Cond.eq (Term.elem (Term.field (Term.string "CanoeSides$Reader" 53) "java/lang/String" "value" "[B") (Term.int 1)) (Term.int 112)) (by decide +kernel)
        | 2, _ => exact hs (Cond.eq (Term.elem (Term.field (Term.string "CanoeSides$Reader" 53) "java/lang/String" "value" "[B") (Term.int 2)) (Term.int 98)) (by decide +kernel)
        | 3, _ => exact hs (Cond.eq (Term.elem (Term.field (Term.string "CanoeSides$Reader" 53) "java/lang/String" "value" "[B") (Term.int 3)) (Term.int 103)) (by decide +kernel)
        | 4, _ => exact hs (Cond.eq (Term.elem (Term.field (Term.string "CanoeSides$Reader" 53) "java/lang/String" "value" "[B") (Term.int 4)) (Term.int 119)) (by decide +kernel)
        | 5, _ => exact hs (Cond.eq (Term.elem (Term.field (Term.string "CanoeSides$Reader" 53) "java/lang/String" "value" "[B") (Term.int 5)) (Term.int 104)) (by decide +kernel)
        | j + 6, hj => exact absurd hj (by simp [strL])
      | 1, _ =>
        match j, hj with
        | 0, _ => exact hs (Cond.eq (Term.elem (Term.field (Term.string "CanoeSides$Reader" 93) "java/lang/String" "value" "[B") (Term.int 0)) (Term.int 46)) (by decide +kernel)
        | 1, _ => exact hs (Cond.eq (Term.elem (Term.field (Term.string "CanoeSides$Reader" 93) "java/lang/String" "value" "[B") (Term.int 1)) (Term.int 35)) (by decide +kernel)
        | 2, _ => exact hs (Cond.eq (Term.elem (Term.field (Term.string "CanoeSides$Reader" 93) "java/lang/String" "value" "[B") (Term.int 2)) (Term.int 111)) (by decide +kernel)
        | 3, _ => exact hs (Cond.eq (Term.elem (Term.field (Term.string "CanoeSides$Reader" 93) "java/lang/String" "value" "[B") (Term.int 3)) (Term.int 110)) (by decide +kernel)
        | 4, _ => exact hs (Cond.eq (Term.elem (Term.field (Term.string "CanoeSides$Reader" 93) "java/lang/String" "value" "[B") (Term.int 4)) (Term.int 101)) (by decide +kernel)
        | 5, _ => exact hs (Cond.eq (Term.elem (Term.field (Term.string "CanoeSides$Reader" 93) "java/lang/String" "value" "[B") (Term.int 5)) (Term.int 115)) (by decide +kernel)
        | 6, _ => exact hs (Cond.eq (Term.elem (Term.field (Term.string "CanoeSides$Reader" 93) "java/lang/String" "value" "[B") (Term.int 6)) (Term.int 119)) (by decide +kernel)
        | j + 7, hj => exact absurd hj (by simp [strL])
      | 2, _ =>
        match j, hj with
        | 0, _ => exact hs (Cond.eq (Term.elem (Term.field (Term.string "CanoeSides$Reader" 144) "java/lang/String" "value" "[B") (Term.int 0)) (Term.int 108)) (by decide +kernel)
        | 1, _ => exact hs (Cond.eq (Term.elem (Term.field (Term.string "CanoeSides$Reader" 144) "java/lang/String" "value" "[B") (Term.int 1)) (Term.int 114)) (by decide +kernel)
        | 2, _ => exact hs (Cond.eq (Term.elem (Term.field (Term.string "CanoeSides$Reader" 144) "java/lang/String" "value" "[B") (Term.int 2)) (Term.int 98)) (by decide +kernel)
        | 3, _ => exact hs (Cond.eq (Term.elem (Term.field (Term.string "CanoeSides$Reader" 144) "java/lang/String" "value" "[B") (Term.int 3)) (Term.int 104)) (by decide +kernel)
        | j + 4, hj => exact absurd hj (by simp [strL])
      | i + 3, hi => omega)
    (fun i j hi hj hij => by
      match i, j, hi, hj, hij with
      | 0, 0, _, _, h => exact absurd rfl h
      | 1, 1, _, _, h => exact absurd rfl h
      | 2, 2, _, _, h => exact absurd rfl h
      | 0, 1, _, _, _ => exact Or.inl (hs (Cond.not (Cond.eq (Term.string "CanoeSides$Reader" 53) (Term.string "CanoeSides$Reader" 93))) (by decide +kernel))
      | 0, 2, _, _, _ => exact Or.inl (hs (Cond.not (Cond.eq (Term.string "CanoeSides$Reader" 53) (Term.string "CanoeSides$Reader" 144))) (by decide +kernel))
      | 1, 2, _, _, _ => exact Or.inl (hs (Cond.not (Cond.eq (Term.string "CanoeSides$Reader" 93) (Term.string "CanoeSides$Reader" 144))) (by decide +kernel))
      | 1, 0, _, _, _ => exact Or.inr (hs (Cond.not (Cond.eq (Term.string "CanoeSides$Reader" 53) (Term.string "CanoeSides$Reader" 93))) (by decide +kernel))
      | 2, 0, _, _, _ => exact Or.inr (hs (Cond.not (Cond.eq (Term.string "CanoeSides$Reader" 53) (Term.string "CanoeSides$Reader" 144))) (by decide +kernel))
      | 2, 1, _, _, _ => exact Or.inr (hs (Cond.not (Cond.eq (Term.string "CanoeSides$Reader" 93) (Term.string "CanoeSides$Reader" 144))) (by decide +kernel))
      | i + 3, j, hi, _, _ => omega
      | i, j + 3, _, hj, _ => omega) hA
  refine ⟨(D, fun t => [a0, a1, a2].getD t a0, fun q => if q = 0 then tE else if q = 1 then tS else if q < 5 then adK (q - 2) else adV (q - 5)), hx, hb, hml, hown, hTB, ⟨hKc, ?_⟩, fun q hq => hq, ?_, hlocks⟩
  · intro k q hq
    match k, hq with
    | 0, hq => cases hq; exact ha0
    | 1, hq => cases hq; exact ha1
    | 2, hq => cases hq; exact ha2
    | k + 3, hq => simp [tys3] at hq
  · refine ⟨fun w hw => ?_, va_AO.of (hts _ (List.mem_of_getElem? (i := 247) (by decide +kernel))), ?_, ?_, hE2, ?_, hS2, ?_, ?_⟩
    · have hn := (List.mem_filter.mp hw).2
      have hw2 := hts w (List.mem_filter.mp hw).1
      cases w <;> first | exact va_Nw.of rfl hw2 | (simp [isNest] at hn)
    · intro i hi
      match i, hi with
      | 0, _ => exact vk_R.of (hts _ (List.mem_of_getElem? (i := 557) (by decide +kernel))) (hStrE 0 (by decide))
      | 1, _ => exact vk_R.of (hts _ (List.mem_of_getElem? (i := 659) (by decide +kernel))) (hStrE 1 (by decide))
      | 2, _ => exact vk_R.of (hts _ (List.mem_of_getElem? (i := 697) (by decide +kernel))) (hStrE 2 (by decide))
      | i + 3, hi => omega
    · exact va_Zof (hts _ (List.mem_of_getElem? (i := 401) (by decide +kernel))) (hts _ (List.mem_of_getElem? (i := 85) (by decide +kernel))) hE1 hA
    · exact va_Zof (hts _ (List.mem_of_getElem? (i := 406) (by decide +kernel))) (hts _ (List.mem_of_getElem? (i := 85) (by decide +kernel))) hS1 hA
    · exact va_Zof (hts _ (List.mem_of_getElem? (i := 575) (by decide +kernel))) (hts _ (List.mem_of_getElem? (i := 99) (by decide +kernel))) (va_eqi (hs _ (by decide +kernel))) hA
    · have e1 : ∀ i, i < 3 → (fun q => if q = 0 then tE else if q = 1 then tS else if q < 5 then adK (q - 2) else adV (q - 5)) (2 + i) = adK i := by
        intro i hi
        show (if 2 + i = 0 then tE else if 2 + i = 1 then tS else if 2 + i < 5 then adK (2 + i - 2) else adV (2 + i - 5)) = adK i
        rw [if_neg (by omega), if_neg (by omega), if_pos (by omega), Nat.add_sub_cancel_left]
      have e2 : ∀ i, (fun q => if q = 0 then tE else if q = 1 then tS else if q < 5 then adK (q - 2) else adV (q - 5)) (5 + i) = adV i := by
        intro i
        show (if 5 + i = 0 then tE else if 5 + i = 1 then tS else if 5 + i < 5 then adK (5 + i - 2) else adV (5 + i - 5)) = adV i
        rw [if_neg (by omega), if_neg (by omega), if_neg (by omega), Nat.add_sub_cancel_left]
      refine ⟨fun i hi => ?_, fun i j hi hj h => ?_⟩
      · obtain ⟨g1, g2, g3, g4⟩ := hStr.1 i hi
        dsimp only at e1 e2 ⊢
        rw [e1 i hi, e2 i]
        exact ⟨g1, g2, g3, g4⟩
      · dsimp only at e1 h
        rw [e1 i hi, e1 j hj] at h
        exact hStr.2 i j hi hj h
