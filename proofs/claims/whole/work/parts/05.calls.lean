/-! contracts, calls, starts, and the words of what a method computes -/
def Pre (K : KT) (rs : Wl) (ad : Nat → Nat) (h : Hp) (sz : Nat) (U : State) : Prop := U.heap.size = sz ∧ va_P K.1 classes (wd K.2.1 ad h rs) U.heap ∧ va_K K.1 classes (tys3 K.2.1) U ∧ va_D (fun _ => True) (wd K.2.1 ad h rs) ∧ Ext K (va_A (wd K.2.1 ad h rs) sz) U U.heap
def Post (K : KT) (rs : Wl) (ad : Nat → Nat) (h : Hp) (t : State) : Prop := va_P K.1 classes (wd K.2.1 ad h rs) t.heap ∧ va_K K.1 classes (tys3 K.2.1) t
/-- a contract: from the world of h the method answers r and leaves the world of h1 -/
def ConI (l : Launch) (y : MethodName) (b : ByteArray) (n : Nat) (ret : Option FieldType) (rm : Room) (K : KT) (rs : Wl) (ad : Nat → Nat) (h : Hp) (av : List Value) (r : Int32) (h1 : Hp) : Prop :=
  ∀ sz : Nat, Met l y (.code y b n ret :: TB) rm (va_Pc av (Pre K rs ad h sz)) (va_Qi (fun r0 (_ : Unit) => r0 = r) (fun _ t => Post K rs ad h1 t) (va_A (wd K.2.1 ad h rs) sz)) 0 0 (va_A (wd K.2.1 ad h rs) sz)
def ConV (l : Launch) (y : MethodName) (b : ByteArray) (n : Nat) (ret : Option FieldType) (rm : Room) (K : KT) (rs : Wl) (ad : Nat → Nat) (h : Hp) (av : List Value) (h1 : Hp) : Prop :=
  ∀ sz : Nat, Met l y (.code y b n ret :: TB) rm (va_Pc av (Pre K rs ad h sz)) (va_Qv (fun (_ : Unit) => True) (fun _ t => Post K rs ad h1 t) (va_A (wd K.2.1 ad h rs) sz)) 0 0 (va_A (wd K.2.1 ad h rs) sz)
theorem Pre_blind (K : KT) (rs : Wl) (ad : Nat → Nat) (h : Hp) (sz : Nat) (av : List Value) : FrameBlind (va_Pc av (Pre K rs ad h sz)) := by
  rintro a U g mk ⟨h0, h1, h2, h3, h4, h5⟩
  exact ⟨h0, h1, h2, va_K.moved (u := U) (U := U.calling g mk a) (Vm.Alike.refl U.vm) h3, h4, Ext_same (u := U) (U := U.calling g mk a) rfl h5⟩
/-- a method's start -/
theorem con_start {l : Launch} {y : MethodName} {b : ByteArray} {n : Nat} {ret : Option FieldType} {rm : Room} {K : KT} {rs : Wl} {ad : Nat → Nat} {h : Hp} {av : List Value} {Qc : Array Value → State → Outcome → State → Prop} {sz : Nat} (L0 : List (Nat × Value)) (hy : plainFor y = true) (hav : lv_args 0 av = L0) (hlen : (lg_sl av).length ≤ n)
    (body : ∀ (p : Program) (e : Env) (s : State) (m : MethodId) (args : Array Value) (below : List Frame) (meth : Method) (c : Code), Cx p s m args meth c b y.cls n K (va_A (wd K.2.1 ad h rs) sz) → meth.sig.returnType = ret → meth.name = y.name → s.heap.size = sz →
      G p l e rm s m args below meth c K (va_A (wd K.2.1 ad h rs) sz) rs n 0 0 (MQ below Qc args s 0 0 (va_A (wd K.2.1 ad h rs) sz)) 0 L0 [] ad h) :
    Met l y (.code y b n ret :: TB) rm (va_Pc av (Pre K rs ad h sz)) Qc 0 0 (va_A (wd K.2.1 ad h rs) sz) := by
  refine va_MetF (cc := b) (maxL := n) (ret := ret) hy rfl ?_
  intro p e s m args below meth c s₁ B hml hv
  obtain ⟨rfl, hsz, hP, hK, hD, hE⟩ := hv
  have hts := atoms_spec (ws := .code y b n ret :: TB) B.pre
  have hown : s.vm.findClass y.cls = some m.cls := findClass_of_methodNamed B.named
  have hl := lv_entry av hlen
  rw [lg_entry_eq]
  rw [hav] at hl
  refine body p e s m _ below meth c ⟨B.exec, B.bytes, hml, hown, fun w hw => hts w (List.mem_cons_of_mem _ hw), hK, fun q hq => Or.inr (by omega), hE, B.notSynchronized⟩ B.returns (name_of_methodNamed B.named B.method).1 hsz s.heap [] _ hP (hD.self) va_S.rf hl
/-- of h what a callee's world left in h1 -/
def mx (ls : List Nat) (h1 h : Hp) : Hp := fun q => if q ∈ ls then h1 q else h q
theorem mx_self (ls : List Nat) (h : Hp) : mx ls h h = h := by
  funext q; unfold mx; split <;> rfl
def spEq : Sp → Sp → Bool
  | .inl a, .inl b => decide (a = b)
  | .inr (.inl a), .inr (.inl b) => decide (a = b)
  | .inr (.inr a), .inr (.inr b) => decide (a = b)
  | _, _ => false
theorem spEq_eq : ∀ (a b : Sp), spEq a b = true → a = b
  | .inl a, .inl b, h => by rw [of_decide_eq_true h]
  | .inr (.inl a), .inr (.inl b), h => by rw [of_decide_eq_true h]
  | .inr (.inr a), .inr (.inr b), h => by rw [of_decide_eq_true h]
  | .inl _, .inr (.inl _), h => by cases h
  | .inl _, .inr (.inr _), h => by cases h
  | .inr (.inl _), .inl _, h => by cases h
  | .inr (.inr _), .inl _, h => by cases h
  | .inr (.inl _), .inr (.inr _), h => by cases h
  | .inr (.inr _), .inr (.inl _), h => by cases h
def subW (rs' rs : Wl) : Bool := rs'.all (fun x => rs.any (fun y => decide (x.1 = y.1) && spEq x.2 y.2))
theorem subW_mem {rs' rs : Wl} (h : subW rs' rs = true) {x : Nat × Sp} (hx : x ∈ rs') : x ∈ rs := by
  have h1 := List.all_eq_true.mp h x hx
  obtain ⟨y, hy, h2⟩ := List.any_eq_true.mp h1
  simp only [Bool.and_eq_true, decide_eq_true_eq] at h2
  have : x = y := Prod.ext h2.1 (spEq_eq _ _ h2.2)
  rw [this]; exact hy
section CALL
variable {p : Program} {l : Launch} {e : Env} {R : Room} {s : State} {m : MethodId} {args : Array Value} {below : List Frame} {meth : Method} {c : Code} {K : KT} {A : Nat → Prop} {rs : Wl} {nL cells slots : Nat} {Q : State → Prop} {pc : Nat} {L : List (Nat × Value)} {st : List Value} {ad : Nat → Nat} {h : Hp} {cc : ByteArray} {own : String}
theorem wd_sub {dA : Nat → ClassId} {rs' rs : Wl} (hs : subW rs' rs = true) {q : Nat × va_E} (hq : q ∈ wd dA ad h rs') : q ∈ wd dA ad h rs := by
  unfold wd at hq ⊢
  obtain ⟨x, hx, rfl⟩ := List.mem_map.mp hq
  exact List.mem_map.mpr ⟨x, subW_mem hs hx, rfl⟩
theorem A_sub (C0 : Cx p s m args meth c cc own nL K A) {rs' : Wl} {H : Heap} {locs : List Loc} (hs : subW rs' rs = true) (hD : va_D A (wd K.2.1 ad h rs)) (hS : va_S A s.heap H locs) : ∀ q, va_A (wd K.2.1 ad h rs') H.size q → A q := by
  rintro q (⟨k, e, he⟩ | hq)
  · obtain ⟨i, hi⟩ := List.getElem?_of_mem (wd_sub hs (List.mem_of_getElem? he))
    exact hD.2 i _ hi
  · exact C0.2.2.2.2.2.2.1 q (Nat.le_trans hS.1 hq)
theorem pre_of (C0 : Cx p s m args meth c cc own nL K A) {rs' : Wl} {H : Heap} {locs : List Loc} (hs : subW rs' rs = true) (hn : nd rs' = true) (hP : va_P K.1 classes (wd K.2.1 ad h rs) H) (hD : va_D A (wd K.2.1 ad h rs)) (hS : va_S A s.heap H locs) {U : State} (hU : U.heap = H) (hW : s.WarmedH U.vm) : Pre K rs' ad h H.size U := by
  refine ⟨by rw [hU], ?_, va_K.moved hW.alike C0.2.2.2.2.2.1, ?_, ?_⟩
  · rw [hU]
    intro k q hq
    obtain ⟨i, hi⟩ := List.getElem?_of_mem (wd_sub hs (List.mem_of_getElem? hq))
    exact hP i q hi
  · refine ⟨fun i j x y hi hj hxy => ?_, fun _ _ _ => trivial⟩
    unfold wd at hi hj
    rw [List.getElem?_map] at hi hj
    cases hx : rs'[i]? with
    | none => rw [hx] at hi; cases hi
    | some a =>
      cases hy : rs'[j]? with
      | none => rw [hy] at hj; cases hj
      | some b =>
        rw [hx] at hi; rw [hy] at hj
        cases hi; cases hj
        have ha : a ∈ rs := subW_mem hs (List.mem_of_getElem? hx)
        have hb : b ∈ rs := subW_mem hs (List.mem_of_getElem? hy)
        obtain ⟨i', hi'⟩ := List.getElem?_of_mem ha
        obtain ⟨j', hj'⟩ := List.getElem?_of_mem hb
        have e1 := hD.1 i' j' _ _ (wd_at (dA := K.2.1) (ad := ad) (h := h) hi') (wd_at (dA := K.2.1) (ad := ad) (h := h) hj') hxy
        subst e1
        rw [hi'] at hj'
        cases hj'
        exact nd_inj hn hx hy rfl
  · rw [hU]
    exact Ext_narrow (Ext_warm hW (Ext_kept C0.2.2.2.2.2.2.2.1 hS.2.1)) (A_sub C0 hs hD hS)
/-- behind a call: the caller's world -/
theorem call_post (hn : nd rs = true) {rs' : Wl} {H H1 : Heap} {h1 : Hp} (ls : List Nat) (hls : rs'.map (fun x => x.1) = ls) (hs : subW rs' rs = true) (hP : va_P K.1 classes (wd K.2.1 ad h rs) H) (hD : va_D A (wd K.2.1 ad h rs))
    (hk : ∀ q : Nat, q < H.size → ¬ va_A (wd K.2.1 ad h rs') H.size q → H1[q]? = H[q]?) (hP1 : va_P K.1 classes (wd K.2.1 ad h1 rs') H1) : va_P K.1 classes (wd K.2.1 ad (mx ls h1 h) rs) H1 := by
  refine join_core hP hk hP1 ?_
  intro q hq
  unfold wd at hq
  obtain ⟨x, hx, rfl⟩ := List.mem_map.mp hq
  by_cases hm : x.1 ∈ ls
  · left
    have hm' := hm
    rw [← hls] at hm'
    obtain ⟨z, hz, hzx⟩ := List.mem_map.mp hm'
    have hz2 : z ∈ rs := subW_mem hs hz
    obtain ⟨i, hi⟩ := List.getElem?_of_mem hz2
    obtain ⟨j, hj⟩ := List.getElem?_of_mem hx
    have e1 := nd_inj hn hi hj hzx
    subst e1
    rw [hi] at hj
    have e2 : z = x := Option.some.inj hj
    rw [e2] at hz
    refine List.mem_map.mpr ⟨x, hz, ?_⟩
    simp [wc, mx, hm]
  · right
    refine ⟨List.mem_map.mpr ⟨x, hx, by simp [wc, mx, hm]⟩, ?_⟩
    intro q' hq' he
    have hq2 := wd_sub (dA := K.2.1) (ad := ad) (h := h) hs hq'
    obtain ⟨z, hz, rfl⟩ := List.mem_map.mp hq'
    have hz2 : z ∈ rs := subW_mem hs hz
    obtain ⟨i, hi⟩ := List.getElem?_of_mem hz2
    obtain ⟨j, hj⟩ := List.getElem?_of_mem hx
    have e1 := hD.1 i j _ _ (wd_at (dA := K.2.1) (ad := ad) (h := h) hi) (wd_at (dA := K.2.1) (ad := ad) (h := h) hj) he
    subst e1
    rw [hi] at hj
    have e2 : z = x := Option.some.inj hj
    rw [e2] at hz
    exact hm (hls ▸ List.mem_map.mpr ⟨x, hz, rfl⟩)
/-- the four kinds of calls, as runs -/
def RunI (p : Program) (l : Launch) (e : Env) (R : Room) (s : State) (m : MethodId) (args : Array Value) (below : List Frame) (meth : Method) (c : Code) (K : KT) (A : Nat → Prop) (rs : Wl) (nL cells slots pc : Nat) (L : List (Nat × Value)) (ad : Nat → Nat) (h : Hp) (rs' : Wl) (st0 rest : List Value) (Qc : (Nat → Array Value → State → Outcome → State → Prop)) : Prop :=
  ∀ (H : Heap) (locs : List Loc) (ls : Array Slot), va_P K.1 classes (wd K.2.1 ad h rs) H → va_D A (wd K.2.1 ad h rs) → va_S A s.heap H locs → lv_has ls nL L → ∃ a : Array Value, va_Run p l e R s m args below meth c H locs cells slots 0 0 (F0 m pc ls st0) rest (Qc H.size a) (va_A (wd K.2.1 ad h rs') H.size)
abbrev cwd (y : MethodName) (n : Nat) : Prop := y.cls ≠ "java/lang/invoke/MethodHandle" ∧ y.cls ≠ "java/lang/invoke/VarHandle" ∧ (parseMethodDescriptor y.desc).map (fun d => d.parameters.length) = some n
abbrev cwr (rm R : Room) (nC : Nat) : Prop := rm.frames + 1 ≤ R.frames ∧ 8 + (nC + 11) + rm.locals ≤ R.locals ∧ rm.cells = 0 ∧ rm.slots = 0 ∧ cells ≤ R.cells ∧ slots ≤ R.slots
theorem runV {y : MethodName} {b : ByteArray} {nC idx : Nat} {ret : Option FieldType} {rm : Room} {rs' : Wl} {As rest st0 : List Value} {r ci : Nat} {sp : List (Option (Option Nat))} {C : String} {T : u_T} {N : Nat} {Qc : Nat → Array Value → State → Outcome → State → Prop} (C0 : Cx p s m args meth c cc own nL K A)
    (hM : ∀ sz, Met l y (.code y b nC ret :: TB) rm (va_Pc (.ref (ad r) :: As) (Pre K rs' ad h sz)) (Qc sz) 0 0 (va_A (wd K.2.1 ad h rs') sz)) (n : Nat) (hy : y.cls = C) (hw : Cond.methodLink own idx y ∈ TB ∧ Cond.instanceMethod y ∈ TB ∧ Cond.selects C y y ∈ TB ∧ Cond.initialized C ∈ TB ∧ Cond.code y b nC ret ∈ TB) (hd : cwd y n) (hR : cwr (cells := cells) (slots := slots) rm R nC)
    (q0 : Nat) (hq : rs[q0]? = some (r, .inl (ci, sp))) (hc : classes[ci]? = some (C, T, N)) (hs : subW rs' rs = true) (hn : nd rs' = true) (hst : st0 = As.reverse ++ .ref (ad r) :: rest) (hlen : As.length = n) (hcat : (rest.map fun v => v.category).sum ≤ 8) (hdg : decode cc pc = .ok (.invokevirtual idx, 3)) :
    RunI p l e R s m args below meth c K A rs nL cells slots pc L ad h rs' st0 rest Qc := by
  intro H locs ls h1 h2 h3 h4
  subst hy
  have ht := C0.2.2.2.2.1
  refine ⟨_, va_runV (As := As) (rest := rest) (Ts := TB) ⟨C0.1, C0.2.1, C0.2.2.1, C0.2.2.2.1, ht⟩ (hM H.size) ⟨callB_of n ht (TB_in hw.2.2.2.2) rfl hR.2.2.1 hR.2.2.2.1 (ht _ hw.2.2.2.1) (ht _ hw.1) hd ⟨hR.1, hR.2.1⟩, ht _ hw.2.1, ht _ hw.2.2.1⟩
    ⟨Pre_blind _ _ _ _ _ _, va_recv C0.2.2.2.2.2.1 h1 hc (wd_at hq), fun U hU hW => ⟨rfl, pre_of C0 hs hn h1 h2 h3 hU hW⟩⟩ rfl hlen h4.1 hst (lv_room hcat) hdg ⟨hR.2.2.2.2.1, hR.2.2.2.2.2⟩⟩
theorem runVN {y : MethodName} {b : ByteArray} {nC idx : Nat} {host : String} {ret : Option FieldType} {rm : Room} {rs' : Wl} {As rest st0 : List Value} {r ci : Nat} {sp : List (Option (Option Nat))} {C : String} {T : u_T} {N : Nat} {Qc : Nat → Array Value → State → Outcome → State → Prop} (C0 : Cx p s m args meth c cc own nL K A)
    (hM : ∀ sz, Met l y (.code y b nC ret :: TB) rm (va_Pc (.ref (ad r) :: As) (Pre K rs' ad h sz)) (Qc sz) 0 0 (va_A (wd K.2.1 ad h rs') sz)) (n : Nat) (hy : y.cls = C) (hw : Cond.methodLinkNest own idx y host ∈ NB ∧ Cond.instanceMethod y ∈ TB ∧ Cond.selects C y y ∈ TB ∧ Cond.initialized C ∈ TB ∧ Cond.code y b nC ret ∈ TB) (hd : cwd y n) (hR : cwr (cells := cells) (slots := slots) rm R nC)
    (q0 : Nat) (hq : rs[q0]? = some (r, .inl (ci, sp))) (hc : classes[ci]? = some (C, T, N)) (hs : subW rs' rs = true) (hn : nd rs' = true) (hst : st0 = As.reverse ++ .ref (ad r) :: rest) (hlen : As.length = n) (hcat : (rest.map fun v => v.category).sum ≤ 8) (hdg : decode cc pc = .ok (.invokevirtual idx, 3)) :
    RunI p l e R s m args below meth c K A rs nL cells slots pc L ad h rs' st0 rest Qc := by
  intro H locs ls h1 h2 h3 h4
  subst hy
  have ht := C0.2.2.2.2.1
  refine ⟨_, va_runVN (As := As) (rest := rest) (Ts := TB) ⟨C0.1, C0.2.1, C0.2.2.1, C0.2.2.2.1, ht⟩ (hM H.size) ⟨va_cnB n ht (TB_in hw.2.2.2.2) rfl hR.2.2.1 hR.2.2.2.1 (C0.2.2.2.2.2.2.2.1.1 _ hw.1) (ht _ hw.2.2.2.1) hd ⟨hR.1, hR.2.1⟩, ht _ hw.2.1, ht _ hw.2.2.1⟩
    ⟨Pre_blind _ _ _ _ _ _, va_recv C0.2.2.2.2.2.1 h1 hc (wd_at hq), fun U hU hW => ⟨rfl, pre_of C0 hs hn h1 h2 h3 hU hW⟩⟩ rfl hlen h4.1 hst (lv_room hcat) hdg ⟨hR.2.2.2.2.1, hR.2.2.2.2.2⟩⟩
theorem runS {y : MethodName} {b : ByteArray} {nC idx : Nat} {ret : Option FieldType} {rm : Room} {rs' : Wl} {As rest st0 : List Value} {Qc : Nat → Array Value → State → Outcome → State → Prop} (C0 : Cx p s m args meth c cc own nL K A)
    (hM : ∀ sz, Met l y (.code y b nC ret :: TB) rm (va_Pc As (Pre K rs' ad h sz)) (Qc sz) 0 0 (va_A (wd K.2.1 ad h rs') sz)) (n : Nat) (hw : Cond.methodLink own idx y ∈ TB ∧ Cond.static y ∈ TB ∧ Cond.initialized y.cls ∈ TB ∧ Cond.code y b nC ret ∈ TB) (hd : cwd y n) (hR : cwr (cells := cells) (slots := slots) rm R nC)
    (hs : subW rs' rs = true) (hn : nd rs' = true) (hst : st0 = As.reverse ++ rest) (hlen : As.length = n) (hcat : (rest.map fun v => v.category).sum ≤ 8) (hdg : decode cc pc = .ok (.invokestatic idx, 3)) :
    RunI p l e R s m args below meth c K A rs nL cells slots pc L ad h rs' st0 rest Qc := by
  intro H locs ls h1 h2 h3 h4
  have ht := C0.2.2.2.2.1
  refine ⟨_, va_runS (As := As) (rest := rest) (Ts := TB) ⟨C0.1, C0.2.1, C0.2.2.1, C0.2.2.2.1, ht⟩ (hM H.size) ⟨callB_of n ht (TB_in hw.2.2.2) rfl hR.2.2.1 hR.2.2.2.1 (ht _ hw.2.2.1) (ht _ hw.1) hd ⟨hR.1, hR.2.1⟩, ht _ hw.2.1⟩
    ⟨Pre_blind _ _ _ _ _ _, fun U hU hW => ⟨rfl, pre_of C0 hs hn h1 h2 h3 hU hW⟩⟩ rfl hlen h4.1 hst (lv_room hcat) hdg ⟨hR.2.2.2.2.1, hR.2.2.2.2.2⟩⟩
theorem runSN {y : MethodName} {b : ByteArray} {nC idx : Nat} {host : String} {ret : Option FieldType} {rm : Room} {rs' : Wl} {As rest st0 : List Value} {Qc : Nat → Array Value → State → Outcome → State → Prop} (C0 : Cx p s m args meth c cc own nL K A)
    (hM : ∀ sz, Met l y (.code y b nC ret :: TB) rm (va_Pc As (Pre K rs' ad h sz)) (Qc sz) 0 0 (va_A (wd K.2.1 ad h rs') sz)) (n : Nat) (hw : Cond.methodLinkNest own idx y host ∈ NB ∧ Cond.static y ∈ TB ∧ Cond.initialized y.cls ∈ TB ∧ Cond.code y b nC ret ∈ TB) (hd : cwd y n) (hR : cwr (cells := cells) (slots := slots) rm R nC)
    (hs : subW rs' rs = true) (hn : nd rs' = true) (hst : st0 = As.reverse ++ rest) (hlen : As.length = n) (hcat : (rest.map fun v => v.category).sum ≤ 8) (hdg : decode cc pc = .ok (.invokestatic idx, 3)) :
    RunI p l e R s m args below meth c K A rs nL cells slots pc L ad h rs' st0 rest Qc := by
  intro H locs ls h1 h2 h3 h4
  have ht := C0.2.2.2.2.1
  refine ⟨_, va_runSN (As := As) (rest := rest) (Ts := TB) ⟨C0.1, C0.2.1, C0.2.2.1, C0.2.2.2.1, ht⟩ (hM H.size) ⟨va_cnB n ht (TB_in hw.2.2.2) rfl hR.2.2.1 hR.2.2.2.1 (C0.2.2.2.2.2.2.2.1.1 _ hw.1) (ht _ hw.2.2.1) hd ⟨hR.1, hR.2.1⟩, ht _ hw.2.1, trivial⟩
    ⟨Pre_blind _ _ _ _ _ _, fun U hU hW => ⟨rfl, pre_of C0 hs hn h1 h2 h3 hU hW⟩⟩ rfl hlen h4.1 hst (lv_room hcat) hdg ⟨hR.2.2.2.2.1, hR.2.2.2.2.2⟩⟩
/-- from a run to what follows: an int, or nothing; the callee's part of the world new, or nothing written -/
theorem g_calli (C0 : Cx p s m args meth c cc own nL K A) {rs' : Wl} {st0 rest : List Value} {r : Int32} {h1 : Hp} (hn : nd rs = true) (ls : List Nat) (hls : rs'.map (fun x => x.1) = ls) (hs : subW rs' rs = true)
    (hr : RunI p l e R s m args below meth c K A rs nL cells slots pc L ad h rs' st0 rest (fun sz => va_Qi (fun r0 (_ : Unit) => r0 = r) (fun _ t => Post K rs' ad h1 t) (va_A (wd K.2.1 ad h rs') sz)))
    (k : G p l e R s m args below meth c K A rs nL cells slots Q (pc + 3) L (.int r :: rest) ad (mx ls h1 h)) : G p l e R s m args below meth c K A rs nL cells slots Q pc L st0 ad h := by
  intro H locs lx g1 g2 g3 g4
  obtain ⟨a, hr⟩ := hr H locs lx g1 g2 g3 g4
  refine va_calli hr g3 (fun q _ hq => A_sub C0 hs g2 g3 q hq) (A_sub C0 hs g2 g3) ?_
  intro r0 u t H1 locs1 ht hvm hp hb hz hk hS
  subst hp
  refine k H1 locs1 lx (call_post hn ls hls hs g1 g2 hk (ht ▸ hb.1)) (vaD_addr g2 (wd_addr _ _ _ _ _ _ rfl)) hS g4
theorem g_callv (C0 : Cx p s m args meth c cc own nL K A) {rs' : Wl} {st0 rest : List Value} {h1 : Hp} (hn : nd rs = true) (ls : List Nat) (hls : rs'.map (fun x => x.1) = ls) (hs : subW rs' rs = true)
    (hr : RunI p l e R s m args below meth c K A rs nL cells slots pc L ad h rs' st0 rest (fun sz => va_Qv (fun (_ : Unit) => True) (fun _ t => Post K rs' ad h1 t) (va_A (wd K.2.1 ad h rs') sz)))
    (k : G p l e R s m args below meth c K A rs nL cells slots Q (pc + 3) L rest ad (mx ls h1 h)) : G p l e R s m args below meth c K A rs nL cells slots Q pc L st0 ad h := by
  intro H locs lx g1 g2 g3 g4
  obtain ⟨a, hr⟩ := hr H locs lx g1 g2 g3 g4
  refine va_callv hr g3 (fun q _ hq => A_sub C0 hs g2 g3 q hq) (A_sub C0 hs g2 g3) ?_
  intro u t H1 locs1 ht hvm hp hb hz hk hS
  refine k H1 locs1 lx (call_post hn ls hls hs g1 g2 hk (ht ▸ hb.1)) (vaD_addr g2 (wd_addr _ _ _ _ _ _ rfl)) hS g4
theorem g_mx (ls : List Nat) (hls : rs.map (fun x => x.1) = ls) {h1 : Hp} (k : G p l e R s m args below meth c K A rs nL cells slots Q pc L st ad h1) : G p l e R s m args below meth c K A rs nL cells slots Q pc L st ad (mx ls h1 h) := by
  intro H locs lx g1 g2 g3 g4
  have e : wd K.2.1 ad (mx ls h1 h) rs = wd K.2.1 ad h1 rs := by
    unfold wd
    apply List.map_congr_left
    intro x hx
    have : x.1 ∈ ls := hls ▸ List.mem_map.mpr ⟨x, hx, rfl⟩
    simp [wc, mx, this]
  rw [e] at g1 g2
  exact k H locs lx g1 g2 g3 g4
end CALL
/-! what a method computes: words -/
section KW
variable {α β : Type}
def bd (x : Option β) (k : β → Option α) : Option α := match x with
  | none => none
  | some v => k v
def nm (x : β) (k : β → Option α) : Option α := k x
def gA (n : Nat) (f : Nat → Int32) (i : Int32) (k : Int32 → Option α) : Option α := if i < 0 ∨ n ≤ i.toNatClampNeg then none else k (f i.toNatClampNeg)
def sA (n : Nat) (i : Int32) (k : Option α) : Option α := if i < 0 ∨ n ≤ i.toNatClampNeg then none else k
def dz (y : Int32) (k : Option α) : Option α := if y = 0 then none else k
def dzl (y : Int64) (k : Option α) : Option α := if y = 0 then none else k
def bz (r : Int32) (k : Option α) : Option α := if r = 0 ∨ r = 1 then k else none
theorem bd_some {x : Option β} {k : β → Option α} {a : α} (h : bd x k = some a) : ∃ v, x = some v ∧ k v = some a := by
  cases x with
  | none => cases h
  | some v => exact ⟨v, rfl, h⟩
theorem nm_some {x : β} {k : β → Option α} {a : α} (h : nm x k = some a) : ∃ v, v = x ∧ k v = some a := ⟨x, rfl, h⟩
theorem gA_some {n : Nat} {f : Nat → Int32} {i : Int32} {k : Int32 → Option α} {a : α} (h : gA n f i k = some a) : vp_in i n ∧ ∃ v, v = f i.toNatClampNeg ∧ k v = some a := by
  unfold gA at h
  split at h
  · cases h
  · rename_i q; exact ⟨q, _, rfl, h⟩
def bd2 {γ : Type} (x : Option (β × γ)) (k : β → γ → Option α) : Option α := match x with
  | none => none
  | some v => k v.1 v.2
theorem bd2_some {γ : Type} {x : Option (β × γ)} {k : β → γ → Option α} {a : α} (h : bd2 x k = some a) : ∃ v w, x = some (v, w) ∧ k v w = some a := by
  cases x with
  | none => cases h
  | some v => exact ⟨v.1, v.2, rfl, h⟩
def el {γ δ : Type} (x : β ⊕ γ) (f : β → δ) (g : γ → δ) : δ := match x with
  | .inl v => f v
  | .inr v => g v
theorem el_inl {γ δ : Type} {x : β} {f : β → δ} {g : γ → δ} {a : δ} (h : el (.inl x : β ⊕ γ) f g = a) : f x = a := h
theorem el_inr {γ δ : Type} {x : γ} {f : β → δ} {g : γ → δ} {a : δ} (h : el (.inr x : β ⊕ γ) f g = a) : g x = a := h
theorem sA_some {n : Nat} {i : Int32} {k : Option α} {a : α} (h : sA n i k = some a) : vp_in i n ∧ k = some a := by
  unfold sA at h
  split at h
  · cases h
  · rename_i q; exact ⟨q, h⟩
theorem dz_some {y : Int32} {k : Option α} {a : α} (h : dz y k = some a) : ¬ y = 0 ∧ k = some a := by
  unfold dz at h
  split at h
  · cases h
  · rename_i q; exact ⟨q, h⟩
theorem dzl_some {y : Int64} {k : Option α} {a : α} (h : dzl y k = some a) : ¬ y = 0 ∧ k = some a := by
  unfold dzl at h
  split at h
  · cases h
  · rename_i q; exact ⟨q, h⟩
theorem bz_some {r : Int32} {k : Option α} {a : α} (h : bz r k = some a) : narrow .boolean (.int r) = .int r ∧ k = some a := by
  unfold bz at h
  split at h
  · rename_i q; exact ⟨by rcases q with rfl | rfl <;> rfl, h⟩
  · cases h
theorem ite_some {c : Prop} [Decidable c] {x y : Option α} {a : α} (h : (if c then x else y) = some a) : (c → x = some a) ∧ (¬ c → y = some a) := by
  split at h <;> rename_i q
  · exact ⟨fun _ => h, fun z => absurd q z⟩
  · exact ⟨fun z => absurd z q, fun _ => h⟩
def loopN (body : α → Option (α ⊕ β)) : Nat → α → Option β
  | 0, _ => none
  | n + 1, s => match body s with
    | none => none
    | some (.inl s') => loopN body n s'
    | some (.inr t) => some t
theorem loopG (body : α → Option (α ⊕ β)) (PS : α → Prop) (PT : β → Prop) (hb : ∀ (s : α) (x : α ⊕ β), body s = some x → (∀ s', x = .inl s' → PS s') → (∀ t, x = .inr t → PT t) → PS s) : ∀ (n : Nat) (s : α) (t : β), loopN body n s = some t → PT t → PS s
  | 0, s, t, h, _ => by cases h
  | n + 1, s, t, h, ht => by
    unfold loopN at h
    cases hx : body s with
    | none => rw [hx] at h; cases h
    | some x =>
      rw [hx] at h
      cases x with
      | inl s' => exact hb s _ hx (fun z hz => by cases hz; exact loopG body PS PT hb n s' t h ht) (fun z hz => by cases hz)
      | inr t' =>
        cases h
        exact hb s _ hx (fun z hz => by cases hz) (fun z hz => by cases hz; exact ht)
end KW
