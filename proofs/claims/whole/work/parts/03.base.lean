/-! THE LAYER: a method's world as a list of numbered places with shapes, what they hold as one function; rows over it -/
def isNest : Cond → Bool
  | .fieldLinkNest .. => true
  | .methodLinkNest .. => true
  | _ => false
def TB : List Cond := lw_tbl.filter goodWord
def NB : List Cond := lw_tbl.filter isNest
theorem tb_of {w : Cond} (i : Nat) (h : lw_tbl[i]? = some w) (hg : goodWord w = true) : w ∈ TB := List.mem_filter.mpr ⟨List.mem_of_getElem? h, hg⟩
theorem nb_of {w : Cond} (i : Nat) (h : lw_tbl[i]? = some w) (hg : isNest w = true) : w ∈ NB := List.mem_filter.mpr ⟨List.mem_of_getElem? h, hg⟩
theorem TB_in {w : Cond} (h : w ∈ TB) : GoodIn TB (w :: TB) := fun v hv => by
  rcases List.mem_cons.mp hv with rfl | hv
  · exact ⟨h, good_of_word (List.mem_filter.mp h).2⟩
  · exact ⟨hv, good_of_word (List.mem_filter.mp hv).2⟩
abbrev Hp : Type := Nat → Nat → Int32
abbrev Sp : Type := (Nat × List (Option (Option Nat))) ⊕ ((Nat × Nat) ⊕ (Nat × Nat))
abbrev Wl : Type := List (Nat × Sp)
abbrev KT : Type := va_G × (Nat → ClassId) × (Nat → Nat)
def fl (ad : Nat → Nat) (f : Nat → Int32) : Nat → List (Option (Option Nat)) → List Value
  | _, [] => []
  | k, none :: xs => .int (f k) :: fl ad f (k + 1) xs
  | k, some none :: xs => .null :: fl ad f (k + 1) xs
  | k, some (some r) :: xs => .ref (ad r) :: fl ad f (k + 1) xs
def ent (dA : Nat → ClassId) (ad : Nat → Nat) (f : Nat → Int32) : Sp → va_E
  | .inl (ci, fs) => .inr (ci, fl ad f 0 fs)
  | .inr (.inl (t, n)) => .inl (dA t, n, .inl f)
  | .inr (.inr (n, b)) => .inl (dA 2, n, .inr (.inr (.inr (.inr (fun i => if i < n then (if f i = 0 then none else some (ad (b + i))) else none)))))
def wc (dA : Nat → ClassId) (ad : Nat → Nat) (h : Hp) (r : Nat × Sp) : Nat × va_E := (ad r.1, ent dA ad (h r.1) r.2)
def wd (dA : Nat → ClassId) (ad : Nat → Nat) (h : Hp) (rs : Wl) : va_W := rs.map (wc dA ad h)
def hrow (h : Hp) (r : Nat) (f : Nat → Int32) : Hp := fun q => if q = r then f else h q
def hset (h : Hp) (r k : Nat) (v : Int32) : Hp := hrow h r (upd (h r) k v)
theorem hrow_at (h : Hp) (r : Nat) (f : Nat → Int32) : hrow h r f r = f := by simp [hrow]
theorem hrow_ne (h : Hp) {r q : Nat} (f : Nat → Int32) (n : q ≠ r) : hrow h r f q = h q := by simp [hrow, n]
theorem hrow_self (h : Hp) (r : Nat) : hrow h r (h r) = h := by
  funext q
  unfold hrow
  split
  · rename_i e; rw [e]
  · rfl
def flv (ad : Nat → Nat) (f : Nat → Int32) (k : Nat) : Option (Option Nat) → Value
  | none => .int (f k)
  | some none => .null
  | some (some r) => .ref (ad r)
theorem fl_at (ad : Nat → Nat) (f : Nat → Int32) : ∀ (fs : List (Option (Option Nat))) (k j : Nat), (fl ad f k fs)[j]? = fs[j]?.map (flv ad f (k + j))
  | [], k, j => by simp [fl]
  | a :: xs, k, j => by
    have ih := fl_at ad f xs (k + 1)
    have e : fl ad f k (a :: xs) = flv ad f k a :: fl ad f (k + 1) xs := by
      match a with
      | none => rfl
      | some none => rfl
      | some (some r) => rfl
    rw [e]
    cases j with
    | zero => simp
    | succ j => rw [List.getElem?_cons_succ, List.getElem?_cons_succ, ih j, show k + 1 + j = k + (j + 1) by omega]
theorem fl_len (ad : Nat → Nat) (f : Nat → Int32) : ∀ (fs : List (Option (Option Nat))) (k : Nat), (fl ad f k fs).length = fs.length
  | [], k => rfl
  | none :: xs, k => by show (fl ad f (k + 1) xs).length + 1 = xs.length + 1; rw [fl_len]
  | some none :: xs, k => by show (fl ad f (k + 1) xs).length + 1 = xs.length + 1; rw [fl_len]
  | some (some _) :: xs, k => by show (fl ad f (k + 1) xs).length + 1 = xs.length + 1; rw [fl_len]
theorem fl_upd (ad : Nat → Nat) (f : Nat → Int32) (fs : List (Option (Option Nat))) {j : Nat} (hj : fs[j]? = some none) (v : Int32) : (fl ad f 0 fs).set j (.int v) = fl ad (upd f j v) 0 fs := by
  apply List.ext_getElem?
  intro i
  rw [fl_at]
  by_cases e : j = i
  · subst e
    rw [List.getElem?_set_self (by rw [fl_len]; exact (List.getElem?_eq_some_iff.mp hj).1), hj]
    simp [flv, upd]
  · rw [List.getElem?_set_ne e, fl_at]
    cases h : fs[i]? with
    | none => rfl
    | some o =>
      have : ¬ i = j := fun q => e q.symm
      cases o with
      | none => simp [flv, upd, this]
      | some o => cases o <;> simp [flv]
theorem fl_updr (ad : Nat → Nat) (f : Nat → Int32) (fs : List (Option (Option Nat))) (j : Nat) (r : Nat) : (fl ad f 0 fs).set j (.ref (ad r)) = fl ad f 0 (fs.set j (some (some r))) := by
  apply List.ext_getElem?
  intro i
  rw [fl_at]
  by_cases e : j = i
  · subst e
    by_cases hl : j < fs.length
    · rw [List.getElem?_set_self (by rw [fl_len]; exact hl), List.getElem?_set_self hl]
      simp [flv]
    · rw [List.getElem?_eq_none (by rw [List.length_set, fl_len]; omega), List.getElem?_eq_none (by rw [List.length_set]; omega)]
      rfl
  · rw [List.getElem?_set_ne e, List.getElem?_set_ne e, fl_at]
theorem wd_at {dA : Nat → ClassId} {ad : Nat → Nat} {h : Hp} {rs : Wl} {q : Nat} {x : Nat × Sp} (hq : rs[q]? = some x) : (wd dA ad h rs)[q]? = some (ad x.1, ent dA ad (h x.1) x.2) := by
  unfold wd
  rw [List.getElem?_map, hq]
  rfl
/-- the places' numbers are apart -/
def nd (rs : Wl) : Bool := va_nd (rs.map (fun x => x.1))
theorem nd_inj {rs : Wl} (h : nd rs = true) {i j : Nat} {x y : Nat × Sp} (hi : rs[i]? = some x) (hj : rs[j]? = some y) (e : x.1 = y.1) : i = j :=
  va_nd_inj _ h i j x.1 (by rw [List.getElem?_map, hi]; rfl) (by rw [List.getElem?_map, hj, e]; rfl)
theorem wd_set {dA : Nat → ClassId} {ad : Nat → Nat} {h : Hp} {rs : Wl} {q r : Nat} {sp sp' : Sp} (hn : nd rs = true) (hq : rs[q]? = some (r, sp)) (f : Nat → Int32) :
    (wd dA ad h rs).set q (ad r, ent dA ad f sp') = wd dA ad (hrow h r f) (rs.set q (r, sp')) := by
  apply List.ext_getElem?
  intro i
  have hl : q < rs.length := (List.getElem?_eq_some_iff.mp hq).1
  unfold wd
  rw [List.getElem?_map]
  by_cases e : q = i
  · subst e
    rw [List.getElem?_set_self (by rw [List.length_map]; exact hl), List.getElem?_set_self hl]
    simp [wc, hrow]
  · rw [List.getElem?_set_ne e, List.getElem?_set_ne e, List.getElem?_map]
    cases hx : rs[i]? with
    | none => rfl
    | some x =>
      have : x.1 ≠ r := fun z => e (nd_inj hn hq hx z.symm)
      simp [wc, hrow, this]
theorem set_self {α : Type} {l : List α} {q : Nat} {x : α} (h : l[q]? = some x) : l.set q x = l := by
  apply List.ext_getElem?
  intro i
  by_cases e : q = i
  · subst e
    rw [List.getElem?_set_self (List.getElem?_eq_some_iff.mp h).1, h]
  · rw [List.getElem?_set_ne e]
theorem wd_put {dA : Nat → ClassId} {ad : Nat → Nat} {h : Hp} {rs : Wl} {q r ci k : Nat} {fs : List (Option (Option Nat))} (hn : nd rs = true) (hq : rs[q]? = some (r, .inl (ci, fs))) (hk : fs[k]? = some none) (v : Int32) :
    (wd dA ad h rs).set q (ad r, .inr (ci, (fl ad (h r) 0 fs).set k (.int v))) = wd dA ad (hset h r k v) rs := by
  have e := wd_set (dA := dA) (ad := ad) (h := h) (sp' := .inl (ci, fs)) hn hq (upd (h r) k v)
  rw [set_self hq] at e
  rw [fl_upd ad (h r) fs hk v]
  exact e
theorem wd_putr {dA : Nat → ClassId} {ad : Nat → Nat} {h : Hp} {rs : Wl} {q r ci : Nat} {fs : List (Option (Option Nat))} (hn : nd rs = true) (hq : rs[q]? = some (r, .inl (ci, fs))) (k r2 : Nat) :
    (wd dA ad h rs).set q (ad r, .inr (ci, (fl ad (h r) 0 fs).set k (.ref (ad r2)))) = wd dA ad h (rs.set q (r, .inl (ci, fs.set k (some (some r2))))) := by
  have e := wd_set (dA := dA) (ad := ad) (h := h) (sp' := .inl (ci, fs.set k (some (some r2)))) hn hq (h r)
  rw [hrow_self] at e
  rw [fl_updr ad (h r) fs k r2]
  exact e
theorem wd_ast {dA : Nat → ClassId} {ad : Nat → Nat} {h : Hp} {rs : Wl} {q r t n : Nat} (hn : nd rs = true) (hq : rs[q]? = some (r, .inr (.inl (t, n)))) (f : Nat → Int32) :
    (wd dA ad h rs).set q (ad r, .inl (dA t, n, .inl f)) = wd dA ad (hrow h r f) rs := by
  have e := wd_set (dA := dA) (ad := ad) (h := h) (sp' := .inr (.inl (t, n))) hn hq f
  rw [set_self hq] at e
  exact e
theorem vaD_addr {A : Nat → Prop} {w1 w2 : va_W} (h : va_D A w1) (e : w2.map (fun q => q.1) = w1.map (fun q => q.1)) : va_D A w2 := by
  have key : ∀ (k : Nat) (q : Nat × va_E), w2[k]? = some q → ∃ q', w1[k]? = some q' ∧ q'.1 = q.1 := by
    intro k q hq
    have h1 : (w2.map (fun q => q.1))[k]? = some q.1 := by rw [List.getElem?_map, hq]; rfl
    rw [e, List.getElem?_map] at h1
    cases hx : w1[k]? with
    | none => rw [hx] at h1; cases h1
    | some x => rw [hx] at h1; exact ⟨x, rfl, Option.some.inj h1⟩
  refine ⟨fun i j a b hi hj hab => ?_, fun k q hq => ?_⟩
  · obtain ⟨x, hx, ex⟩ := key i a hi
    obtain ⟨y, hy, ey⟩ := key j b hj
    exact h.1 i j x y hx hy (by rw [ex, ey, hab])
  · obtain ⟨x, hx, ex⟩ := key k q hq
    rw [← ex]
    exact h.2 k x hx
theorem wd_addr (dA : Nat → ClassId) (ad : Nat → Nat) (h h' : Hp) (rs rs' : Wl) (e : rs'.map (fun x => x.1) = rs.map (fun x => x.1)) : (wd dA ad h' rs').map (fun q => q.1) = (wd dA ad h rs).map (fun q => q.1) := by
  unfold wd
  rw [List.map_map, List.map_map]
  have : ∀ (h : Hp), (fun q : Nat × va_E => q.1) ∘ wc dA ad h = ad ∘ (fun x : Nat × Sp => x.1) := fun h => rfl
  rw [this, this, ← List.map_map, ← List.map_map, e]
/-- behind a call: what the callee's world is now, the rest as it was -/
theorem join_core {D : va_G} {cl : List vw_C} {ws wk w1 w2 : va_W} {H H1 : Heap} (hP : va_P D cl ws H) (hk : ∀ q : Nat, q < H.size → ¬ va_A wk H.size q → H1[q]? = H[q]?) (hP1 : va_P D cl w1 H1)
    (h2 : ∀ q ∈ w2, q ∈ w1 ∨ (q ∈ ws ∧ ∀ q' ∈ wk, q'.1 ≠ q.1)) : va_P D cl w2 H1 := by
  intro k q hq
  rcases h2 q (List.mem_of_getElem? hq) with h | ⟨h, hn⟩
  · obtain ⟨i, hi⟩ := List.getElem?_of_mem h
    exact hP1 i q hi
  · obtain ⟨i, hi⟩ := List.getElem?_of_mem h
    have hl := (hP i q hi).lt
    refine (hP i q hi).kept (hk q.1 hl ?_)
    rintro (⟨j, e, he⟩ | he)
    · exact hn _ (List.mem_of_getElem? he) rfl
    · omega
