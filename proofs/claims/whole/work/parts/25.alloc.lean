/-! rows that make cells, and worlds told anew -/
def rfs : Sp → List Nat
  | .inl (_, fs) => fs.filterMap (fun o => match o with | some (some r) => some r | _ => none)
  | .inr (.inl _) => []
  | .inr (.inr (n, b)) => (List.range n).map (fun i => b + i)
theorem fl_congr {ad ad' : Nat → Nat} {f : Nat → Int32} {fs : List (Option (Option Nat))} (h : ∀ x ∈ rfs (.inl (0, fs)), ad' x = ad x) : fl ad' f 0 fs = fl ad f 0 fs := by
  apply List.ext_getElem?
  intro i
  rw [fl_at, fl_at]
  cases hx : fs[i]? with
  | none => rfl
  | some o =>
    match o with
    | none => rfl
    | some none => rfl
    | some (some r) =>
      have : ad' r = ad r := h r (List.mem_filterMap.mpr ⟨_, List.mem_of_getElem? hx, rfl⟩)
      simp [flv, this]
theorem ent_congr {dA : Nat → ClassId} {ad ad' : Nat → Nat} {f : Nat → Int32} : ∀ {sp : Sp}, (∀ x ∈ rfs sp, ad' x = ad x) → ent dA ad' f sp = ent dA ad f sp
  | .inl (ci, fs), h => by
    show (Sum.inr (ci, fl ad' f 0 fs) : va_E) = Sum.inr (ci, fl ad f 0 fs)
    rw [fl_congr h]
  | .inr (.inl _), _ => rfl
  | .inr (.inr (n, b)), h => by
    have : (fun i => if i < n then (if f i = 0 then none else some (ad' (b + i))) else none) = (fun i => if i < n then (if f i = 0 then none else some (ad (b + i))) else none) := by
      funext i
      by_cases hi : i < n
      · rw [if_pos hi, if_pos hi, h (b + i) (List.mem_map.mpr ⟨i, List.mem_range.mpr hi, rfl⟩)]
      · rw [if_neg hi, if_neg hi]
    exact congrArg (fun z => (Sum.inl (dA 2, n, Sum.inr (Sum.inr (Sum.inr (Sum.inr z)))) : va_E)) this
theorem wd_congr {dA : Nat → ClassId} {ad ad' : Nat → Nat} {h h' : Hp} {rs : Wl} (h1 : ∀ x ∈ rs, ad' x.1 = ad x.1 ∧ h' x.1 = h x.1 ∧ ∀ y ∈ rfs x.2, ad' y = ad y) : wd dA ad' h' rs = wd dA ad h rs := by
  unfold wd
  apply List.map_congr_left
  intro x hx
  obtain ⟨a, b, c⟩ := h1 x hx
  unfold wc
  rw [a, b, ent_congr c]
/-- r is no place of the world, nor told of in it -/
def frs (r : Nat) (rs : Wl) : Bool := rs.all (fun x => decide (x.1 ≠ r) && (rfs x.2).all (fun y => decide (y ≠ r)))
theorem wd_fresh {dA : Nat → ClassId} {ad ad' : Nat → Nat} {h h' : Hp} {rs : Wl} {r : Nat} (hf : frs r rs = true) (ha : ∀ x, x ≠ r → ad' x = ad x) (hh : ∀ x, x ≠ r → h' x = h x) : wd dA ad' h' rs = wd dA ad h rs := by
  refine wd_congr fun x hx => ?_
  have h1 := List.all_eq_true.mp hf x hx
  simp only [Bool.and_eq_true, decide_eq_true_eq] at h1
  refine ⟨ha _ h1.1, hh _ h1.1, fun y hy => ha y ?_⟩
  have := List.all_eq_true.mp h1.2 y hy
  simpa using this
section ALLOC
variable {p : Program} {l : Launch} {e : Env} {R : Room} {s : State} {m : MethodId} {args : Array Value} {below : List Frame} {meth : Method} {c : Code} {K : KT} {A : Nat → Prop} {rs : Wl} {nL cells slots : Nat} {Q : State → Prop} {pc : Nat} {L : List (Nat × Value)} {st : List Value} {ad : Nat → Nat} {h : Hp} {cc : ByteArray} {own : String}
/-- the same cells under other numbers -/
theorem g_recast {rs' : Wl} {ad' : Nat → Nat} {h' : Hp} (he : wd K.2.1 ad' h' rs' = wd K.2.1 ad h rs) (k : G p l e R s m args below meth c K A rs' nL cells slots Q pc L st ad' h') : G p l e R s m args below meth c K A rs nL cells slots Q pc L st ad h := by
  intro H locs ls h1 h2 h3 h4
  rw [← he] at h1 h2
  exact k H locs ls h1 h2 h3 h4
/-- a part of the cells, or in another order -/
theorem g_part {rs' : Wl} (hs : subW rs' rs = true) (hn : nd rs' = true) (k : G p l e R s m args below meth c K A rs' nL cells slots Q pc L st ad h) : G p l e R s m args below meth c K A rs nL cells slots Q pc L st ad h := by
  intro H locs ls h1 h2 h3 h4
  refine k H locs ls ?_ ?_ h3 h4
  · intro k q hq
    obtain ⟨i, hi⟩ := List.getElem?_of_mem (wd_sub hs (List.mem_of_getElem? hq))
    exact h1 i q hi
  · have hD : va_D (fun _ => True) (wd K.2.1 ad h rs') := by
      refine ⟨fun i j x y hi hj hxy => ?_, fun _ _ _ => trivial⟩
      unfold wd at hi hj
      rw [List.getElem?_map] at hi hj
      cases hx : rs'[i]? with
      | none => rw [hx] at hi; cases hi
      | some a =>
        cases hy : rs'[j]? with
        | none => rw [hy] at hj; cases hj
        | some b =>
          rw [hx] at hi; rw [hy] at hj
          cases hi; cases hj
          obtain ⟨i', hi'⟩ := List.getElem?_of_mem (subW_mem hs (List.mem_of_getElem? hx))
          obtain ⟨j', hj'⟩ := List.getElem?_of_mem (subW_mem hs (List.mem_of_getElem? hy))
          have e1 := h2.1 i' j' _ _ (wd_at (dA := K.2.1) (ad := ad) (h := h) hi') (wd_at (dA := K.2.1) (ad := ad) (h := h) hj') hxy
          subst e1
          rw [hi'] at hj'
          cases hj'
          exact nd_inj hn hx hy rfl
    refine hD.weaken (fun k q hq _ => ?_)
    obtain ⟨i, hi⟩ := List.getElem?_of_mem (wd_sub hs (List.mem_of_getElem? hq))
    exact h2.2 i q hi
theorem g_widen {k n : Nat} (h1 : cells ≤ k) (h2 : slots ≤ n) (kk : G p l e R s m args below meth c K A rs nL k n Q pc L st ad h) : G p l e R s m args below meth c K A rs nL cells slots Q pc L st ad h := fun H locs ls a b c d => W.widen h1 h2 (kk H locs ls a b c d)
theorem g_objInit (C0 : Cx p s m args meth c cc own nL K A) {idx : Nat} {a : Nat} (hw : Cond.methodLink own idx objectInit ∈ TB) (hw2 : Cond.instanceMethod objectInit ∈ TB) (hw3 : Cond.code objectInit ⟨#[0xb1]⟩ 1 none ∈ TB) (hf : 1 ≤ R.frames) (hlo : (st.map fun v => v.category).sum + 12 ≤ R.locals) (hdg : decode cc pc = .ok (.invokespecial idx, 3))
    (k : G p l e R s m args below meth c K A rs nL cells slots Q (pc + 3) L st ad h) : G p l e R s m args below meth c K A rs nL cells slots Q pc L (.ref a :: st) ad h := fun H locs ls h1 h2 h3 h4 =>
  W.objInit C0.1 C0.2.1 C0.2.2.2.1 (C0.2.2.2.2.1 _ hw) (C0.2.2.2.2.1 _ hw2) (C0.2.2.2.2.1 _ hw3) rfl (h4.1.trans C0.2.2.1.symm) rfl hdg hf (by simpa [JFrame.monitorRoom] using hlo) (k H locs ls h1 h2 h3 h4)
theorem g_newa (C0 : Cx p s m args meth c cc own nL K A) {atype : ArrayType} {ty : FieldType} (r t n : Nat) (hw : Cond.arrayClass ty ∈ TB) (hty : newarray.typeOf atype = ty) (ht : (tys3 K.2.1)[t]? = some (K.2.1 t, ty)) (hra : ∀ cA : ClassId, va_RA s cA ty ↔ s.vm.findClass ("[" ++ ty.toString) = some cA) (hdv : defaultValue ty = .int 0) (hf : frs r rs = true) {x : Int32} (hx : ¬ x < 0) (hxn : x.toNatClampNeg = n) (hb : n * componentBytes ty ≤ 536870912) (hc : cells + 1 ≤ R.cells) (hs : slots + n ≤ R.slots) (hdg : decode cc pc = .ok (.newarray atype, 2))
    (k : ∀ ad' : Nat → Nat, (∀ y, y ≠ r → ad' y = ad y) → G p l e R s m args below meth c K A (rs ++ [(r, .inr (.inl (t, n)))]) nL (cells + 1) (slots + n) Q (pc + 2) L (.ref (ad' r) :: st) ad' (hrow h r (fun _ => 0))) : G p l e R s m args below meth c K A rs nL cells slots Q pc L (.int x :: st) ad h := by
  intro H locs ls h1 h2 h3 h4
  refine va_newa (ty := ty) (N' := n) (a0 := (n, .inl (fun _ => 0))) C0.1 C0.2.1 (by rw [hty]; exact C0.2.2.2.2.1 _ hw) hty C0.2.2.2.2.2.1 h1 h2 h3 C0.2.2.2.2.2.2.1 (fun cA => by rw [hdv]; rfl) hx hxn hb hc hs hdg ?_
  intro q cA H1 g0 g1 g2 g3
  have e0 := (hra cA).mp (g0.2 (tys3 K.2.1).length (cA, ty) (by rw [List.getElem?_append_right (Nat.le_refl _), Nat.sub_self]; rfl)).2
  have e1 := (hra (K.2.1 t)).mp (C0.2.2.2.2.2.1.2 t _ ht).2
  have e2 : cA = K.2.1 t := Option.some.inj (e0.symm.trans e1)
  subst e2
  have hu : ∀ y, y ≠ r → va_up ad r q y = ad y := fun y hy => by simp [va_up, hy]
  have hww : wd K.2.1 (va_up ad r q) (hrow h r (fun _ => 0)) (rs ++ [(r, .inr (.inl (t, n)))]) = wd K.2.1 ad h rs ++ [(q, .inl (K.2.1 t, n, .inl (fun _ => 0)))] := by
    have a1 := wd_fresh (dA := K.2.1) (h := h) (h' := hrow h r (fun _ => 0)) hf hu (fun y hy => hrow_ne h _ hy)
    unfold wd at a1 ⊢
    rw [List.map_append, a1]
    simp [wc, ent, va_up, hrow]
  have hq : va_up ad r q r = q := by simp [va_up]
  have kk := k (va_up ad r q) hu H1 locs ls (by rw [hww]; exact g1) (by rw [hww]; exact g2) g3 h4
  rw [hq] at kk
  exact kk
theorem g_new (C0 : Cx p s m args meth c cc own nL K A) {ci N idx : Nat} {C : String} {T : u_T} (CK : classes[ci]? = some (C, T, N) ∧ ∀ w ∈ u_ws C T N, w ∈ TB) {ty : Nat → FieldType} (hty : ∀ k, k < N → parseFieldDescriptor (T k).2.2.1 = some (ty k)) (r : Nat) (sp : List (Option (Option Nat))) (hw : Cond.classLink own idx C ∈ TB ∧ Cond.instantiable C N ∈ TB ∧ Cond.initialized C ∈ TB) (hf : frs r rs = true) (hfs : ∀ f : Nat → Int32, (∀ j, f j = 0) → ∀ (ad : Nat → Nat) (j : Nat), j < N → defaultValue (ty j) = vp_V (fl ad f 0 sp) j) (hr0 : frs r [(r + 1, .inl (ci, sp))] = true) (hc : cells + 1 ≤ R.cells) (hs : slots + N ≤ R.slots) (hdg : decode cc pc = .ok (.new idx, 3))
    (k : ∀ ad' : Nat → Nat, (∀ y, y ≠ r → ad' y = ad y) → G p l e R s m args below meth c K A (rs ++ [(r, .inl (ci, sp))]) nL (cells + 1) (slots + N) Q (pc + 3) L (.ref (ad' r) :: st) ad' (hrow h r (fun _ => 0))) : G p l e R s m args below meth c K A rs nL cells slots Q pc L st ad h := by
  intro H locs ls h1 h2 h3 h4
  refine va_new (ci := ci) (fs := fl ad (fun _ => 0) 0 sp) (C := C) (T := T) (N := N) C0.1 C0.2.1 C0.2.2.2.2.1 CK.2 ty hty C0.2.2.2.1 (C0.2.2.2.2.1 _ hw.1) (C0.2.2.2.2.1 _ hw.2.1) (C0.2.2.2.2.1 _ hw.2.2) C0.2.2.2.2.2.1 h1 h2 h3 C0.2.2.2.2.2.2.1 CK.1 (fun j hj => hfs _ (fun _ => rfl) ad j hj) hc hs hdg ?_
  intro q H1 g1 g2 g3
  have hu : ∀ y, y ≠ r → va_up ad r q y = ad y := fun y hy => by simp [va_up, hy]
  have hr1 : ∀ y ∈ rfs (.inl (ci, sp)), va_up ad r q y = ad y := by
    intro y hy
    have a := List.all_eq_true.mp hr0 _ List.mem_cons_self
    simp only [Bool.and_eq_true, decide_eq_true_eq] at a
    exact hu y (by simpa using List.all_eq_true.mp a.2 y hy)
  have hww : wd K.2.1 (va_up ad r q) (hrow h r (fun _ => 0)) (rs ++ [(r, .inl (ci, sp))]) = wd K.2.1 ad h rs ++ [(q, .inr (ci, fl ad (fun _ => 0) 0 sp))] := by
    have a1 := wd_fresh (dA := K.2.1) (h := h) (h' := hrow h r (fun _ => 0)) hf hu (fun y hy => hrow_ne h _ hy)
    have a2 := ent_congr (dA := K.2.1) (f := fun _ => (0 : Int32)) hr1
    unfold wd at a1 ⊢
    rw [List.map_append, a1]
    simp only [List.map_cons, List.map_nil, wc]
    rw [hrow_at, a2]
    simp [ent, va_up]
  have hq : va_up ad r q r = q := by simp [va_up]
  have kk := k (va_up ad r q) hu H1 locs ls (by rw [hww]; exact g1) (by rw [hww]; exact g2) g3 h4
  rw [hq] at kk
  exact kk
theorem g_newq (C0 : Cx p s m args meth c cc own nL K A) (r n b : Nat) {idx : Nat} (hw : Cond.classLink own idx "CanoeSides$Boat" ∈ TB) (hf : frs r rs = true) (hrb : ∀ i, i < n → b + i ≠ r) {x : Int32} (hx : ¬ x < 0) (hxn : x.toNatClampNeg = n) (hb : n * 4 ≤ 536870912) (hc : cells + 1 ≤ R.cells) (hs : slots + n ≤ R.slots) (hdg : decode cc pc = .ok (.anewarray idx, 3))
    (k : ∀ ad' : Nat → Nat, (∀ y, y ≠ r → ad' y = ad y) → G p l e R s m args below meth c K A (rs ++ [(r, .inr (.inr (n, b)))]) nL (cells + 1) (slots + n) Q (pc + 3) L (.ref (ad' r) :: st) ad' (hrow h r (fun _ => 0))) : G p l e R s m args below meth c K A rs nL cells slots Q pc L (.int x :: st) ad h := by
  intro H locs ls h1 h2 h3 h4
  refine va_newq (N' := n) C0.1 C0.2.1 C0.2.2.2.1 (C0.2.2.2.2.1 _ hw) C0.2.2.2.2.2.2.2.1.2.1 C0.2.2.2.2.2.1 h1 h2 h3 C0.2.2.2.2.2.2.1 hx hxn hb hc hs hdg ?_
  intro q cA H1 g0 g1 g2 g3
  obtain ⟨_, _, _, _, _, e0⟩ := (g0.2 (tys3 K.2.1).length (cA, .object "CanoeSides$Boat") (by rw [List.getElem?_append_right (Nat.le_refl _), Nat.sub_self]; rfl)).2
  obtain ⟨_, _, _, _, _, e1⟩ := (C0.2.2.2.2.2.1.2 2 (K.2.1 2, .object "CanoeSides$Boat") rfl).2
  have e2 : cA = K.2.1 2 := Option.some.inj (e0.symm.trans e1)
  subst e2
  have hu : ∀ y, y ≠ r → va_up ad r q y = ad y := fun y hy => by simp [va_up, hy]
  have hww : wd K.2.1 (va_up ad r q) (hrow h r (fun _ => 0)) (rs ++ [(r, .inr (.inr (n, b)))]) = wd K.2.1 ad h rs ++ [(q, .inl (K.2.1 2, n, .inr (.inr (.inr (.inr (fun _ => none))))))] := by
    have a1 := wd_fresh (dA := K.2.1) (h := h) (h' := hrow h r (fun _ => 0)) hf hu (fun y hy => hrow_ne h _ hy)
    unfold wd at a1 ⊢
    rw [List.map_append, a1]
    simp [wc, ent, va_up, hrow]
  have hq : va_up ad r q r = q := by simp [va_up]
  have kk := k (va_up ad r q) hu H1 locs ls (by rw [hww]; exact g1) (by rw [hww]; exact g2) g3 h4
  rw [hq] at kk
  exact kk
theorem g_aastN (C0 : Cx p s m args meth c cc own nL K A) (q0 : Nat) {r n b : Nat} (hq : rs[q0]? = some (r, .inr (.inr (n, b)))) (hn : nd rs = true) {i : Int32} (hin : vp_in i n) (hdg : decode cc pc = .ok (.aastore, 1))
    (k : G p l e R s m args below meth c K A rs nL cells slots Q (pc + 1) L st ad (hset h r i.toNatClampNeg 0)) : G p l e R s m args below meth c K A rs nL cells slots Q pc L (.null :: .int i :: .ref (ad r) :: st) ad h := by
  intro H locs ls h1 h2 h3 h4
  refine va_astqN C0.1 C0.2.1 C0.2.2.2.2.2.1 h1 h2 h3 q0 2 (wd_at hq) rfl hin hdg ?_
  intro H1 locs1 g1 g2 g3
  have e1 : va_up (fun j => if j < n then (if h r j = 0 then none else some (ad (b + j))) else none) i.toNatClampNeg none = (fun j => if j < n then (if upd (h r) i.toNatClampNeg 0 j = 0 then none else some (ad (b + j))) else none) := by
    funext j
    by_cases hj : j = i.toNatClampNeg
    · simp [va_up, upd, hj]
    · simp [va_up, upd, hj]
  have e2 := wd_set (dA := K.2.1) (ad := ad) (h := h) (sp' := .inr (.inr (n, b))) hn hq (upd (h r) i.toNatClampNeg 0)
  rw [set_self hq] at e2
  rw [e1] at g1 g2
  have e3 : (wd K.2.1 ad h rs).set q0 (ad r, .inl (K.2.1 2, n, .inr (.inr (.inr (.inr (fun j => if j < n then (if upd (h r) i.toNatClampNeg 0 j = 0 then none else some (ad (b + j))) else none)))))) = wd K.2.1 ad (hset h r i.toNatClampNeg 0) rs := e2
  rw [e3] at g1 g2
  exact k H1 locs1 ls g1 g2 g3 h4
theorem g_aald (C0 : Cx p s m args meth c cc own nL K A) (q0 : Nat) {r n b : Nat} (hq : rs[q0]? = some (r, .inr (.inr (n, b)))) {i : Int32} (hin : vp_in i n) (hdg : decode cc pc = .ok (.aaload, 1))
    (k0 : h r i.toNatClampNeg = 0 → G p l e R s m args below meth c K A rs nL cells slots Q (pc + 1) L (.null :: st) ad h)
    (k1 : ¬ h r i.toNatClampNeg = 0 → G p l e R s m args below meth c K A rs nL cells slots Q (pc + 1) L (.ref (ad (b + i.toNatClampNeg)) :: st) ad h) : G p l e R s m args below meth c K A rs nL cells slots Q pc L (.int i :: .ref (ad r) :: st) ad h := by
  intro H locs ls h1 h2 h3 h4
  refine va_aldq C0.1 C0.2.1 C0.2.2.2.2.2.1 h1 q0 2 (wd_at hq) rfl hin hdg ?_
  have hin2 : i.toNatClampNeg < n := by
    unfold vp_in at hin
    omega
  by_cases h0 : h r i.toNatClampNeg = 0
  · have := k0 h0 H locs ls h1 h2 h3 h4
    simpa [hin2, h0, va_rf] using this
  · have := k1 h0 H locs ls h1 h2 h3 h4
    simpa [hin2, h0, va_rf] using this
theorem g_astq (C0 : Cx p s m args meth c cc own nL K A) {rsx : Wl} {i : Nat} (hi : i < 2) (hf : frs (31 + i) rsx = true) (hn : nd (rsx ++ [(33, .inr (.inr (2, 31))), (34, .inl (0, [none, none, none]))]) = true) (hdg : decode cc pc = .ok (.aastore, 1))
    (k : ∀ ad' : Nat → Nat, ad' (31 + i) = ad 34 → (∀ y, y ≠ 31 + i → ad' y = ad y) → G p l e R s m args below meth c K A (rsx ++ [(33, .inr (.inr (2, 31))), (31 + i, .inl (0, [none, none, none]))]) nL cells slots Q (pc + 1) L st ad' (hrow (hset h 33 i 1) (31 + i) (h 34))) : G p l e R s m args below meth c K A (rsx ++ [(33, .inr (.inr (2, 31))), (34, .inl (0, [none, none, none]))]) nL cells slots Q pc L (.ref (ad 34) :: .int (nI i) :: .ref (ad 33) :: st) ad h := by
  intro H locs ls h1 h2 h3 h4
  have hq0 : (rsx ++ [(33, .inr (.inr (2, 31))), (34, .inl (0, [none, none, none]))] : Wl)[rsx.length]? = some (33, .inr (.inr (2, 31))) := by simp
  have hq1 : (rsx ++ [(33, .inr (.inr (2, 31))), (34, .inl (0, [none, none, none]))] : Wl)[rsx.length + 1]? = some (34, .inl (0, [none, none, none])) := by
    rw [List.getElem?_append_right (by omega), Nat.add_sub_cancel_left]; rfl
  have hcl : (nI i).toNatClampNeg = i := nI_clamp (by omega)
  refine va_astq C0.1 C0.2.1 C0.2.2.2.2.2.1 h1 h2 h3 rsx.length 2 (rsx.length + 1) 0 (wd_at hq0) rfl (wd_at hq1) rfl (vp_in_nI hi (by omega)) hdg ?_
  intro H1 locs1 g1 g2 g3
  rw [hcl] at g1 g2
  have hu : ∀ y, y ≠ 31 + i → va_up ad (31 + i) (ad 34) y = ad y := fun y hy => by simp [va_up, hy]
  have e1 : (wd K.2.1 ad h (rsx ++ [(33, .inr (.inr (2, 31))), (34, .inl (0, [none, none, none]))])).set rsx.length (ad 33, .inl (K.2.1 2, 2, .inr (.inr (.inr (.inr (va_up (fun j => if j < 2 then (if h 33 j = 0 then none else some (ad (31 + j))) else none) i (some (ad 34)))))))) = wd K.2.1 (va_up ad (31 + i) (ad 34)) (hrow (hset h 33 i 1) (31 + i) (h 34)) (rsx ++ [(33, .inr (.inr (2, 31))), (31 + i, .inl (0, [none, none, none]))]) := by
    have hn33 : ∀ x ∈ rsx, x.1 ≠ 33 := by
      intro x hx e1
      obtain ⟨j, hj⟩ := List.getElem?_of_mem hx
      have hj2 : (rsx ++ [(33, .inr (.inr (2, 31))), (34, .inl (0, [none, none, none]))] : Wl)[j]? = some x := by
        rw [List.getElem?_append_left (List.getElem?_eq_some_iff.mp hj).1]; exact hj
      have := nd_inj hn hj2 hq0 e1
      have := (List.getElem?_eq_some_iff.mp hj).1
      omega
    have a1 : wd K.2.1 (va_up ad (31 + i) (ad 34)) (hrow (hset h 33 i 1) (31 + i) (h 34)) rsx = wd K.2.1 ad h rsx := by
      refine wd_congr fun x hx => ?_
      have b1 := List.all_eq_true.mp hf x hx
      simp only [Bool.and_eq_true, decide_eq_true_eq] at b1
      refine ⟨hu _ b1.1, ?_, fun y hy => hu y (by simpa using List.all_eq_true.mp b1.2 y hy)⟩
      rw [hrow_ne _ _ b1.1, hset, hrow_ne _ _ (hn33 x hx)]
    have a2 : rsx.length = (wd K.2.1 ad h rsx).length := by simp [wd]
    have a3 : ∀ (ad' : Nat → Nat) (h' : Hp) (z : Wl), wd K.2.1 ad' h' (rsx ++ z) = wd K.2.1 ad' h' rsx ++ wd K.2.1 ad' h' z := fun ad' h' z => List.map_append
    rw [a3, a3, a1, a2, List.set_append_right _ _ (Nat.le_refl _), Nat.sub_self]
    congr 1
    have b2 : (33 : Nat) ≠ 31 + i := by omega
    have b3 : hrow (hset h 33 i 1) (31 + i) (h 34) 33 = upd (h 33) i 1 := by
      rw [hrow_ne _ _ b2, hset, hrow_at]
    have b4 : va_up (fun j => if j < 2 then (if h 33 j = 0 then none else some (ad (31 + j))) else none) i (some (ad 34)) = (fun j => if j < 2 then (if upd (h 33) i 1 j = 0 then none else some (va_up ad (31 + i) (ad 34) (31 + j))) else none) := by
      funext j
      by_cases hj : j = i
      · subst hj; simp [va_up, upd, hi]
      · have : ¬ (31 + j = 31 + i) := by omega
        simp only [va_up, upd, hj, if_false, this]
    show ([_, _] : va_W) = [_, _]
    unfold wc
    simp only [b3, hu 33 b2, List.set_cons_zero]
    have two : ∀ (a a' b b' : Nat × va_E), a = a' → b = b' → ([a, b] : va_W) = [a', b'] := by rintro _ _ _ _ rfl rfl; rfl
    refine two _ _ _ _ ?_ ?_
    · rw [b4]; rfl
    · simp [ent, fl, va_up, hrow]
  have kk := k (va_up ad (31 + i) (ad 34)) (by simp [va_up]) hu H1 locs1 ls
  rw [← e1] at kk
  exact kk g1 g2 g3 h4
/-- contracts that make cells -/
def QVN (s : State) (args : Array Value) (below : List Frame) (K : KT) (A : Nat → Prop) (rs1 : Wl) (keep : List Nat) (ad0 : Nat → Nat) (h1 : Hp) (cells slots : Nat) : State → Prop := MQ below (va_Qv (fun (_ : Nat → Nat) => True) (fun ad' t => (∀ r ∈ keep, ad' r = ad0 r) ∧ Post K rs1 ad' h1 t ∧ va_D A (wd K.2.1 ad' h1 rs1)) A) args s cells slots A
def QIN (s : State) (args : Array Value) (below : List Frame) (K : KT) (A : Nat → Prop) (rs1 : Wl) (keep : List Nat) (ad0 : Nat → Nat) (r : Int32) (h1 : Hp) (cells slots : Nat) : State → Prop := MQ below (va_Qi (fun r0 (_ : Nat → Nat) => r0 = r) (fun ad' t => (∀ r ∈ keep, ad' r = ad0 r) ∧ Post K rs1 ad' h1 t ∧ va_D A (wd K.2.1 ad' h1 rs1)) A) args s cells slots A
theorem g_vretN (C0 : Cx p s m args meth c cc own nL K A) {keep : List Nat} {ad0 : Nat → Nat} (hk : ∀ r ∈ keep, ad r = ad0 r) (hr : meth.sig.returnType = none) (hdg : decode cc pc = .ok (.return_, 1)) : G p l e R s m args below meth c K A rs nL cells slots (QVN s args below K A rs keep ad0 h cells slots) pc L [] ad h := fun H locs ls h1 h2 h3 h4 =>
  W.vret C0.1 C0.2.1 hr (fun t ht hW => ⟨⟨ad, rfl, trivial, hk, ⟨by rw [ht]; exact h1, C0.2.2.2.2.2.1.moved hW.alike⟩, h2⟩, h3.F ht⟩) h3.2.2 hdg C0.2.2.2.2.2.2.2.2
theorem g_iretN (C0 : Cx p s m args meth c cc own nL K A) {keep : List Nat} {ad0 : Nat → Nat} {r : Int32} (hk : ∀ r ∈ keep, ad r = ad0 r) (hr : meth.sig.returnType = some .int) (hdg : decode cc pc = .ok (.ireturn, 1)) : G p l e R s m args below meth c K A rs nL cells slots (QIN s args below K A rs keep ad0 r h cells slots) pc L [.int r] ad h := fun H locs ls h1 h2 h3 h4 =>
  W.iret C0.1 C0.2.1 hr (fun t ht hW => ⟨⟨r, ad, rfl, rfl, hk, ⟨by rw [ht]; exact h1, C0.2.2.2.2.2.1.moved hW.alike⟩, h2⟩, h3.F ht⟩) h3.2.2 hdg C0.2.2.2.2.2.2.2.2
end ALLOC
def ConN (l : Launch) (y : MethodName) (b : ByteArray) (n : Nat) (rm : Room) (K : KT) (rs : Wl) (ad : Nat → Nat) (h : Hp) (av : List Value) (rs1 : Wl) (keep : List Nat) (h1 : Hp) (mc ms : Nat) : Prop :=
  ∀ sz : Nat, Met l y (.code y b n none :: TB) rm (va_Pc av (Pre K rs ad h sz)) (va_Qv (fun (_ : Nat → Nat) => True) (fun ad' t => (∀ r ∈ keep, ad' r = ad r) ∧ Post K rs1 ad' h1 t ∧ va_D (va_A (wd K.2.1 ad h rs) sz) (wd K.2.1 ad' h1 rs1)) (va_A (wd K.2.1 ad h rs) sz)) mc ms (va_A (wd K.2.1 ad h rs) sz)
def ConNI (l : Launch) (y : MethodName) (b : ByteArray) (n : Nat) (rm : Room) (K : KT) (rs : Wl) (ad : Nat → Nat) (h : Hp) (av : List Value) (rs1 : Wl) (keep : List Nat) (r : Int32) (h1 : Hp) (mc ms : Nat) : Prop :=
  ∀ sz : Nat, Met l y (.code y b n (some .int) :: TB) rm (va_Pc av (Pre K rs ad h sz)) (va_Qi (fun r0 (_ : Nat → Nat) => r0 = r) (fun ad' t => (∀ r ∈ keep, ad' r = ad r) ∧ Post K rs1 ad' h1 t ∧ va_D (va_A (wd K.2.1 ad h rs) sz) (wd K.2.1 ad' h1 rs1)) (va_A (wd K.2.1 ad h rs) sz)) mc ms (va_A (wd K.2.1 ad h rs) sz)
theorem con_startN {l : Launch} {y : MethodName} {b : ByteArray} {n : Nat} {ret : Option FieldType} {rm : Room} {K : KT} {rs : Wl} {ad : Nat → Nat} {h : Hp} {av : List Value} {Qc : Array Value → State → Outcome → State → Prop} {sz mc ms : Nat} (L0 : List (Nat × Value)) (hy : plainFor y = true) (hav : lv_args 0 av = L0) (hlen : (lg_sl av).length ≤ n)
    (body : ∀ (p : Program) (e : Env) (s : State) (m : MethodId) (args : Array Value) (below : List Frame) (meth : Method) (c : Code), Cx p s m args meth c b y.cls n K (va_A (wd K.2.1 ad h rs) sz) → meth.sig.returnType = ret → meth.name = y.name → s.heap.size = sz →
      G p l e rm s m args below meth c K (va_A (wd K.2.1 ad h rs) sz) rs n 0 0 (MQ below Qc args s mc ms (va_A (wd K.2.1 ad h rs) sz)) 0 L0 [] ad h) :
    Met l y (.code y b n ret :: TB) rm (va_Pc av (Pre K rs ad h sz)) Qc mc ms (va_A (wd K.2.1 ad h rs) sz) := by
  refine va_MetF (cc := b) (maxL := n) (ret := ret) hy rfl ?_
  intro p e s m args below meth c s₁ B hml hv
  obtain ⟨rfl, hsz, hP, hK, hD, hE⟩ := hv
  have hts := atoms_spec (ws := .code y b n ret :: TB) B.pre
  have hown : s.vm.findClass y.cls = some m.cls := findClass_of_methodNamed B.named
  have hl := lv_entry av hlen
  rw [lg_entry_eq]
  rw [hav] at hl
  refine body p e s m _ below meth c ⟨B.exec, B.bytes, hml, hown, fun w hw => hts w (List.mem_cons_of_mem _ hw), hK, fun q hq => Or.inr (by omega), hE, B.notSynchronized⟩ B.returns (name_of_methodNamed B.named B.method).1 hsz s.heap [] _ hP (hD.self) va_S.rf hl
def allR (rs : Wl) (f : Nat → Bool) : Bool := rs.all (fun x => f x.1 && (rfs x.2).all f)
section CALLN
variable {p : Program} {l : Launch} {e : Env} {R : Room} {s : State} {m : MethodId} {args : Array Value} {below : List Frame} {meth : Method} {c : Code} {K : KT} {A : Nat → Prop} {rs : Wl} {nL cells slots : Nat} {Q : State → Prop} {pc : Nat} {L : List (Nat × Value)} {st : List Value} {ad : Nat → Nat} {h : Hp} {cc : ByteArray} {own : String}
/-- behind a call that makes cells: the rest, and what the callee leaves -/
theorem post_N (C0 : Cx p s m args meth c cc own nL K A) {rs0 rs1 rest : Wl} {new keep ls : List Nat} {ad1 : Nat → Nat} {h1 : Hp} {H H1 : Heap} {locs : List Loc} (hs : subW rs0 rs = true) (hrest : subW rest rs = true) (hn : nd rs = true) (hnr : nd rest = true)
    (hap : rest.all (fun x => rs0.all (fun y => decide (x.1 ≠ y.1))) = true) (hls : rs1.map (fun x => x.1) = ls) (hdis : rest.all (fun x => decide (x.1 ∉ ls)) = true) (hfr : allR rest (fun r => decide (r ∉ new)) = true) (hcov : allR rs1 (fun r => decide (r ∈ keep) || decide (r ∈ new)) = true) (hkn : keep.all (fun r => decide (r ∉ new)) = true)
    (hP : va_P K.1 classes (wd K.2.1 ad h rs) H) (hD : va_D A (wd K.2.1 ad h rs)) (hS : va_S A s.heap H locs) (hk : ∀ q : Nat, q < H.size → ¬ va_A (wd K.2.1 ad h rs0) H.size q → H1[q]? = H[q]?)
    (hkeep : ∀ r ∈ keep, ad1 r = ad r) (hP1 : va_P K.1 classes (wd K.2.1 ad1 h1 rs1) H1) (hD1 : va_D (va_A (wd K.2.1 ad h rs0) H.size) (wd K.2.1 ad1 h1 rs1)) :
    va_P K.1 classes (wd K.2.1 (fun y => if y ∈ new then ad1 y else ad y) (mx ls h1 h) (rest ++ rs1)) H1 ∧ va_D A (wd K.2.1 (fun y => if y ∈ new then ad1 y else ad y) (mx ls h1 h) (rest ++ rs1)) := by
  have e1 : wd K.2.1 (fun y => if y ∈ new then ad1 y else ad y) (mx ls h1 h) rest = wd K.2.1 ad h rest := by
    refine wd_congr fun x hx => ?_
    have a := List.all_eq_true.mp hfr x hx
    have b := List.all_eq_true.mp hdis x hx
    simp only [Bool.and_eq_true, decide_eq_true_eq] at a b
    refine ⟨by simp [a.1], by simp [mx, b], fun y hy => ?_⟩
    have := List.all_eq_true.mp a.2 y hy
    simp only [decide_eq_true_eq] at this
    simp [this]
  have e2 : wd K.2.1 (fun y => if y ∈ new then ad1 y else ad y) (mx ls h1 h) rs1 = wd K.2.1 ad1 h1 rs1 := by
    have ok : ∀ r, (decide (r ∈ keep) || decide (r ∈ new)) = true → (if r ∈ new then ad1 r else ad r) = ad1 r := by
      intro r hr
      simp only [Bool.or_eq_true, decide_eq_true_eq] at hr
      by_cases hn : r ∈ new
      · simp [hn]
      · simp only [hn, if_false]
        exact (hkeep r (hr.resolve_right hn)).symm
    refine wd_congr fun x hx => ?_
    have a := List.all_eq_true.mp hcov x hx
    rw [Bool.and_eq_true] at a
    have b : x.1 ∈ ls := hls ▸ List.mem_map.mpr ⟨x, hx, rfl⟩
    exact ⟨ok _ a.1, by simp [mx, b], fun y hy => ok y (List.all_eq_true.mp a.2 y hy)⟩
  have e3 : ∀ (ad' : Nat → Nat) (h' : Hp) (a b : Wl), wd K.2.1 ad' h' (a ++ b) = wd K.2.1 ad' h' a ++ wd K.2.1 ad' h' b := fun _ _ _ _ => List.map_append
  rw [e3, e1, e2]
  have apart : ∀ q ∈ wd K.2.1 ad h rest, q ∈ wd K.2.1 ad h rs ∧ ∀ q' ∈ wd K.2.1 ad h rs0, q'.1 ≠ q.1 := by
    intro q hq
    obtain ⟨x, hx, rfl⟩ := List.mem_map.mp hq
    refine ⟨List.mem_map.mpr ⟨x, subW_mem hrest hx, rfl⟩, fun q' hq' he => ?_⟩
    obtain ⟨z, hz, rfl⟩ := List.mem_map.mp hq'
    obtain ⟨i, hi⟩ := List.getElem?_of_mem (subW_mem hs hz)
    obtain ⟨j, hj⟩ := List.getElem?_of_mem (subW_mem hrest hx)
    have e4 := hD.1 i j _ _ (wd_at (dA := K.2.1) (ad := ad) (h := h) hi) (wd_at (dA := K.2.1) (ad := ad) (h := h) hj) he
    subst e4
    rw [hi] at hj
    have e5 : z = x := Option.some.inj hj
    have a := List.all_eq_true.mp hap x hx
    have b := List.all_eq_true.mp a z hz
    simp only [decide_eq_true_eq] at b
    exact b (by rw [e5])
  refine ⟨join_core hP hk hP1 (fun q hq => ?_), ?_⟩
  · rcases List.mem_append.mp hq with h | h
    · exact Or.inr (apart q h)
    · exact Or.inl h
  · refine va_D.app ?_ (hD1.weaken (fun k q _ hq => A_sub C0 hs hD hS q.1 hq)) (fun i j x y hx hy hxy => ?_)
    · have hD2 : va_D (fun _ => True) (wd K.2.1 ad h rest) := by
        refine ⟨fun i j x y hi hj hxy => ?_, fun _ _ _ => trivial⟩
        unfold wd at hi hj
        rw [List.getElem?_map] at hi hj
        cases hx : rest[i]? with
        | none => rw [hx] at hi; cases hi
        | some a =>
          cases hy : rest[j]? with
          | none => rw [hy] at hj; cases hj
          | some b =>
            rw [hx] at hi; rw [hy] at hj
            cases hi; cases hj
            obtain ⟨i', hi'⟩ := List.getElem?_of_mem (subW_mem hrest (List.mem_of_getElem? hx))
            obtain ⟨j', hj'⟩ := List.getElem?_of_mem (subW_mem hrest (List.mem_of_getElem? hy))
            have e1 := hD.1 i' j' _ _ (wd_at (dA := K.2.1) (ad := ad) (h := h) hi') (wd_at (dA := K.2.1) (ad := ad) (h := h) hj') hxy
            subst e1
            rw [hi'] at hj'
            cases hj'
            exact nd_inj hnr hx hy rfl
      refine hD2.weaken (fun k q hq _ => ?_)
      obtain ⟨i, hi⟩ := List.getElem?_of_mem (apart q (List.mem_of_getElem? hq)).1
      exact hD.2 i q hi
    · obtain ⟨a1, a2⟩ := apart x (List.mem_of_getElem? hx)
      obtain ⟨i', hi'⟩ := List.getElem?_of_mem a1
      have hl := (hP i' x hi').lt
      rcases hD1.2 j y hy with ⟨k2, e2', h2⟩ | h2
      · exact a2 _ (List.mem_of_getElem? h2) hxy.symm
      · omega
theorem g_initN (C0 : Cx p s m args meth c cc own nL K A) {y : MethodName} {b : ByteArray} {nC idx : Nat} {rm : Room} {rs0 rs1 : Wl} {As rst st0 : List Value} {r mc ms : Nat} {h1 : Hp} (rest : Wl) (new keep ls : List Nat)
    (hM : ConN l y b nC rm K rs0 ad h (.ref (ad r) :: As) rs1 keep h1 mc ms) (n : Nat) (hy1 : y.name = "<init>") (hw : Cond.methodLink own idx y ∈ TB ∧ Cond.instanceMethod y ∈ TB ∧ Cond.initialized y.cls ∈ TB ∧ Cond.code y b nC none ∈ TB) (hd : cwd y n) (hR : rm.frames + 1 ≤ R.frames ∧ 8 + (nC + 11) + rm.locals ≤ R.locals ∧ rm.cells = mc ∧ rm.slots = ms ∧ cells + mc ≤ R.cells ∧ slots + ms ≤ R.slots)
    (hs : subW rs0 rs = true) (hn0 : nd rs0 = true) (hn : nd rs = true) (hrest : subW rest rs = true) (hnr : nd rest = true) (hap : rest.all (fun x => rs0.all (fun y => decide (x.1 ≠ y.1))) = true) (hls : rs1.map (fun x => x.1) = ls) (hdis : rest.all (fun x => decide (x.1 ∉ ls)) = true) (hfr : allR rest (fun r => decide (r ∉ new)) = true) (hcov : allR rs1 (fun r => decide (r ∈ keep) || decide (r ∈ new)) = true) (hkn : keep.all (fun r => decide (r ∉ new)) = true)
    (hst : st0 = As.reverse ++ .ref (ad r) :: rst) (hlen : As.length = n) (hcat : (rst.map fun v => v.category).sum ≤ 8) (hdg : decode cc pc = .ok (.invokespecial idx, 3))
    (k : ∀ ad' : Nat → Nat, (∀ y, y ∉ new → ad' y = ad y) → G p l e R s m args below meth c K A (rest ++ rs1) nL (cells + mc) (slots + ms) Q (pc + 3) L rst ad' (mx ls h1 h)) : G p l e R s m args below meth c K A rs nL cells slots Q pc L st0 ad h := by
  intro H locs lx g1 g2 g3 g4
  have ht := C0.2.2.2.2.1
  have hr := va_runI (e := e) (below := below) (meth := meth) (As := As) (rest := rst) (Ts := TB) (nL := nL) (H := H) (locs := locs) (cells := cells) (slots := slots) (g := F0 m pc lx st0) ⟨C0.1, C0.2.1, C0.2.2.1, C0.2.2.2.1, ht⟩ (hM H.size) ⟨callB_of n ht (TB_in hw.2.2.2) rfl hR.2.2.1 hR.2.2.2.1 (ht _ hw.2.2.1) (ht _ hw.1) hd ⟨hR.1, hR.2.1⟩, hy1, ht _ hw.2.1⟩
    ⟨Pre_blind _ _ _ _ _ _, fun U hU hW => ⟨rfl, pre_of C0 hs hn0 g1 g2 g3 hU hW⟩⟩ rfl hlen g4.1 hst (lv_room hcat) hdg ⟨hR.2.2.2.2.1, hR.2.2.2.2.2⟩
  refine va_callv hr g3 (fun q _ hq => A_sub C0 hs g2 g3 q hq) (A_sub C0 hs g2 g3) ?_
  intro ad1 t H1 locs1 htp hvm hp hb hz hk hS
  obtain ⟨hkeep, hpost, hD1⟩ := hb
  obtain ⟨f1, f2⟩ := post_N (ad1 := ad1) (h1 := h1) C0 hs hrest hn hnr hap hls hdis hfr hcov hkn g1 g2 g3 hk hkeep (htp ▸ hpost.1) hD1
  exact k _ (fun y hy => by simp [hy]) H1 locs1 lx f1 f2 hS g4
end CALLN
