/-! numbers: Int32 out of Nat (nI) and Int (iI); the words of K over them -/
abbrev iI (z : Int) : Int32 := Int32.ofInt z
theorem nI_iI (n : Nat) : nI n = iI (n : Int) := by
  show Int32.ofNat n = Int32.ofInt n
  rw [Int32.ofInt_eq_ofNat]
theorem iI_toInt {z : Int} (h1 : -2147483648 ≤ z) (h2 : z < 2147483648) : (iI z).toInt = z := Int32.toInt_ofInt_of_le h1 h2
theorem nI_lt_iff {a b : Nat} (ha : a < 2147483648) (hb : b < 2147483648) : nI a < nI b ↔ a < b := by
  rw [Int32.lt_iff_toInt_lt, nI_toInt (by omega), nI_toInt (by omega)]; omega
theorem nI_le_iff {a b : Nat} (ha : a < 2147483648) (hb : b < 2147483648) : nI a ≤ nI b ↔ a ≤ b := by
  rw [Int32.le_iff_toInt_le, nI_toInt (by omega), nI_toInt (by omega)]; omega
theorem nI_eq_iff {a b : Nat} (ha : a < 2147483648) (hb : b < 2147483648) : nI a = nI b ↔ a = b := by
  rw [← Int32.toInt_inj, nI_toInt (by omega), nI_toInt (by omega)]; omega
theorem iI_lt_iff {a b : Int} (h1 : -2147483648 ≤ a) (h2 : a < 2147483648) (h3 : -2147483648 ≤ b) (h4 : b < 2147483648) : iI a < iI b ↔ a < b := by
  rw [Int32.lt_iff_toInt_lt, iI_toInt h1 h2, iI_toInt h3 h4]
theorem iI_le_iff {a b : Int} (h1 : -2147483648 ≤ a) (h2 : a < 2147483648) (h3 : -2147483648 ≤ b) (h4 : b < 2147483648) : iI a ≤ iI b ↔ a ≤ b := by
  rw [Int32.le_iff_toInt_le, iI_toInt h1 h2, iI_toInt h3 h4]
theorem iI_eq_iff {a b : Int} (h1 : -2147483648 ≤ a) (h2 : a < 2147483648) (h3 : -2147483648 ≤ b) (h4 : b < 2147483648) : iI a = iI b ↔ a = b := by
  rw [← Int32.toInt_inj, iI_toInt h1 h2, iI_toInt h3 h4]
theorem iI_add (a b : Int) : iI a + iI b = iI (a + b) := (Int32.ofInt_add a b).symm
theorem iI_sub (a b : Int) : iI a - iI b = iI (a - b) := (Int32.ofInt_sub a b).symm
theorem iI_mul (a b : Int) : iI a * iI b = iI (a * b) := (Int32.ofInt_mul a b).symm
theorem iI_neg (a : Int) : -iI a = iI (-a) := (Int32.ofInt_neg a).symm
theorem nI_mul (a b : Nat) : nI a * nI b = nI (a * b) := pk_mul a b
theorem nI_sub {a b : Nat} (h : b ≤ a) : nI a - nI b = nI (a - b) := pk_sub h
theorem nI_div {a d : Nat} (ha : a < 2147483648) (h0 : 0 < d) (hd : d < 2147483648) : nI a / nI d = nI (a / d) := pk_div (by omega) h0 (by omega)
theorem nI_rem {a d : Nat} (ha : a < 2147483648) (h0 : 0 < d) (hd : d < 2147483648) : rm32 (nI a) (nI d) = nI (a % d) := pk_rem (by omega) h0 (by omega)
theorem nI_cl {a : Nat} (h : a < 2147483648) : (nI a).toNatClampNeg = a := nI_clamp (by omega)
theorem nI_not_neg {a : Nat} (h : a < 2147483648) : ¬ nI a < 0 := nI_pos (by omega)
theorem iI_div {a b : Int} (h1 : -2147483648 ≤ a) (h2 : a < 2147483648) (h3 : 0 < b) (h4 : b < 2147483648) : iI a / iI b = iI (a.tdiv b) := by
  apply Int32.toInt_inj.mp
  have hb : (-2147483648 : Int) ≤ a.tdiv b ∧ a.tdiv b < 2147483648 := by
    rcases Int.le_total 0 a with h | h
    · have := Int.tdiv_nonneg h (by omega : 0 ≤ b)
      have := Int.tdiv_le_self b h
      omega
    · have e : a.tdiv b = -((-a).tdiv b) := by rw [Int.neg_tdiv, Int.neg_neg]
      have := Int.tdiv_nonneg (by omega : 0 ≤ -a) (by omega : 0 ≤ b)
      have := Int.tdiv_le_self b (by omega : 0 ≤ -a)
      omega
  rw [Int32.toInt_div, iI_toInt h1 h2, iI_toInt (by omega) h4, iI_toInt hb.1 hb.2]
  exact Int.bmod_eq_of_le (by omega) (by omega)
theorem gA_nI {α : Type} {n i : Nat} {f : Nat → Int32} {k : Int32 → Option α} (h : i < n) (hn : i < 2147483648) : gA n f (nI i) k = k (f i) := by
  unfold gA
  rw [nI_cl hn, if_neg]
  rintro (q | q)
  · exact nI_not_neg hn q
  · omega
theorem sA_nI {α : Type} {n i : Nat} {k : Option α} (h : i < n) (hn : i < 2147483648) : sA n (nI i) k = k := by
  unfold sA
  rw [nI_cl hn, if_neg]
  rintro (q | q)
  · exact nI_not_neg hn q
  · omega
theorem dz_nI {α : Type} {n : Nat} {k : Option α} (h : 0 < n) (hn : n < 2147483648) : dz (nI n) k = k := by
  unfold dz
  rw [if_neg]
  intro q
  have : nI n = nI 0 := q
  rw [nI_eq_iff hn (by omega)] at this
  omega
theorem bd_s {α β : Type} (v : β) (k : β → Option α) : bd (some v) k = k v := rfl
theorem bd2_s {α β γ : Type} (v : β) (w : γ) (k : β → γ → Option α) : bd2 (some (v, w)) k = k v w := rfl
theorem nm_s {α β : Type} (v : β) (k : β → Option α) : nm v k = k v := rfl
theorem and31 {n : Nat} (h : n < 32) : (nI n &&& 31 : Int32) = nI n := by
  have := pk_andN (n := n) (by omega) (m := 31) 5 (by decide)
  rw [this, Nat.mod_eq_of_lt (by omega)]
theorem and7_nI {n : Nat} (h : n < 4294967296) : (nI n &&& 7 : Int32) = nI (n % 8) := pk_andN (by omega) 3 (by decide)
/-- of any number, its eighths -/
theorem and7_iI (z : Int) : (iI z &&& 7 : Int32) = nI (z.emod 8).toNat := by
  have h := pk_and (iI z) (m := 7) 3 (by decide)
  rw [h]
  congr 1
  have e : (iI z).toBitVec = BitVec.ofInt 32 z := rfl
  rw [e, BitVec.toNat_ofInt]
  have h1 : (0 : Int) ≤ z % 4294967296 := Int.emod_nonneg _ (by decide)
  have h2 : (z % 4294967296) % 8 = z % 8 := Int.emod_emod_of_dvd z (by decide)
  show (z % ((2 ^ 32 : Nat) : Int)).toNat % 2 ^ 3 = (z % 8).toNat
  have h3 : ((2 ^ 32 : Nat) : Int) = 4294967296 := by decide
  rw [h3]
  omega
theorem loopN_s {α β : Type} {body : α → Option (α ⊕ β)} {s s' : α} (n : Nat) (h : body s = some (.inl s')) : loopN body (n + 1) s = loopN body n s' := by
  show (match body s with | none => none | some (.inl s') => loopN body n s' | some (.inr t) => some t) = _
  rw [h]
theorem loopN_t {α β : Type} {body : α → Option (α ⊕ β)} {s : α} {t : β} (n : Nat) (h : body s = some (.inr t)) : loopN body (n + 1) s = some t := by
  show (match body s with | none => none | some (.inl s') => loopN body n s' | some (.inr t) => some t) = _
  rw [h]
/-- a loop: an invariant, a measure that falls, and what holds at its end -/
theorem loopN_inv {α β : Type} (body : α → Option (α ⊕ β)) (I : α → Prop) (μ : α → Nat) (P : β → Prop) (hs : ∀ s, I s → (∃ s', body s = some (.inl s') ∧ I s' ∧ μ s' < μ s) ∨ (∃ t, body s = some (.inr t) ∧ P t)) : ∀ (n : Nat) (s : α), I s → μ s < n → ∃ t, loopN body n s = some t ∧ P t
  | 0, s, _, h => absurd h (Nat.not_lt_zero _)
  | n + 1, s, hi, h => by
    rcases hs s hi with ⟨s', h1, h2, h3⟩ | ⟨t, h1, h2⟩
    · rw [loopN_s n h1]
      exact loopN_inv body I μ P hs n s' h2 (by omega)
    · exact ⟨t, loopN_t n h1, h2⟩
/-- a counted loop whose states are told place by place -/
theorem loopN_for {α β : Type} (body : α → Option (α ⊕ β)) (f : Nat → α) (e : Nat) (t : β) (hs : ∀ i, i < e → body (f i) = some (.inl (f (i + 1)))) (he : body (f e) = some (.inr t)) {N : Nat} (hN : e < N) : loopN body N (f 0) = some t := by
  have key : ∀ (d i n : Nat), i + d = e → d < n → loopN body n (f i) = some t := by
    intro d
    induction d with
    | zero =>
      intro i n hi hn
      obtain ⟨n, rfl⟩ : ∃ m, n = m + 1 := ⟨n - 1, by omega⟩
      have : i = e := by omega
      subst this
      exact loopN_t n he
    | succ d ih =>
      intro i n hi hn
      obtain ⟨n, rfl⟩ : ∃ m, n = m + 1 := ⟨n - 1, by omega⟩
      rw [loopN_s n (hs i (by omega))]
      exact ih (i + 1) n (by omega) (by omega)
  exact key e 0 N (by omega) hN
theorem hset_at (h : Hp) (r k : Nat) (v : Int32) : hset h r k v r = upd (h r) k v := hrow_at _ _ _
theorem hset_ne (h : Hp) {r q : Nat} (k : Nat) (v : Int32) (n : q ≠ r) : hset h r k v q = h q := hrow_ne _ _ n
theorem upd_at (f : Nat → Int32) (k : Nat) (v : Int32) : upd f k v k = v := by simp [upd]
theorem upd_ne (f : Nat → Int32) {k j : Nat} (v : Int32) (n : j ≠ k) : upd f k v j = f j := by simp [upd, n]
theorem hrow_hrow (h : Hp) (r : Nat) (f g : Nat → Int32) : hrow (hrow h r f) r g = hrow h r g := by
  funext q; unfold hrow; split <;> rfl
theorem hset_fill (g : Hp) (r : Nat) (F G : Nat → Int32) (i : Nat) : hset (hrow g r (fun j => if j < i then F j else G j)) r i (F i) = hrow g r (fun j => if j < i + 1 then F j else G j) := by
  unfold hset
  rw [hrow_hrow, hrow_at]
  congr 1
  funext j
  unfold upd
  by_cases hj : j = i
  · have h2 : j < i + 1 := by omega
    simp only [hj, if_true]
    rw [if_pos (by omega)]
  · simp only [hj, if_false]
    by_cases hj2 : j < i
    · rw [if_pos hj2, if_pos (by omega)]
    · rw [if_neg hj2, if_neg (by omega)]
theorem hrow_fill0 (g : Hp) (r : Nat) (F : Nat → Int32) : hrow g r (fun j => if j < 0 then F j else g r j) = g := by
  have : (fun j => if j < 0 then F j else g r j) = g r := by funext j; simp
  rw [this, hrow_self]
