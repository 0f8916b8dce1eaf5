/-! letters of a clause -/
def ixc (i c : Nat) : Int32 := idxK i (Int32.toUInt32 (nI c) % 65536).toInt32
def MXL (i : Nat) : Nat := if i = 0 then 5 else if i = 1 then 6 else 3
theorem ix0 : ∀ c, c ≤ 256 → K_M_wordOf (nI c) = some (ixc 0 c) := by decide +kernel
theorem ix1 : ∀ c, c ≤ 256 → K_M_squareOf (nI c) = some (ixc 1 c) := by decide +kernel
theorem ix2 : ∀ c, c ≤ 256 → K_M_strokeOf (nI c) = some (ixc 2 c) := by decide +kernel
theorem ixR : ∀ i, i < 3 → ∀ c, c ≤ 256 → ixc i c = -1 ∨ (ixc i c = nI (ixc i c).toNatClampNeg ∧ (ixc i c).toNatClampNeg ≤ MXL i) := by decide +kernel
theorem ixN : ∀ i, i < 3 → ixc i 256 = -1 := by decide +kernel
theorem ixE : K_M_wordOf (-1) = some (-1) ∧ K_M_squareOf (-1) = some (-1) ∧ K_M_strokeOf (-1) = some (-1) := by decide +kernel
/-- what the letter at q is among the i-th letters -/
def lt (tx : List Nat) (i q : Nat) : Int32 := ixc i (chC tx q)
def kk (tx : List Nat) (i q : Nat) : Nat := (lt tx i q).toNatClampNeg
theorem lt_or {tx : List Nat} (hX : okX tx) {i : Nat} (hi : i < 3) (q : Nat) : lt tx i q = -1 ∨ (lt tx i q = nI (kk tx i q) ∧ kk tx i q ≤ MXL i) := ixR i hi _ (chC_le hX q)
theorem lt_in {tx : List Nat} {i : Nat} (hi : i < 3) {q : Nat} (h : lt tx i q ≠ -1) : q < tx.length := by
  by_cases c : q < tx.length
  · exact c
  · exfalso
    apply h
    unfold lt chC
    rw [if_neg c]
    exact ixN i hi
theorem MXL_le (i : Nat) : MXL i ≤ 6 := by
  unfold MXL
  split
  · decide
  · split <;> decide
theorem lt_neg {tx : List Nat} (hX : okX tx) {i : Nat} (hi : i < 3) (q : Nat) : lt tx i q < 0 ↔ lt tx i q = -1 := by
  rcases lt_or hX hi q with e | ⟨e, b⟩
  · rw [e]; exact ⟨fun _ => rfl, fun _ => by decide⟩
  · have := MXL_le i
    rw [e]
    exact ⟨fun z => absurd z (nI_not_neg (by omega)), fun z => absurd (show nI (kk tx i q) < 0 by rw [z]; decide) (nI_not_neg (by omega))⟩
theorem wordH {tx : List Nat} (hX : okX tx) (q : Nat) : K_M_wordOf (chM tx q) = some (lt tx 0 q) := by
  unfold chM lt chC
  by_cases c : q < tx.length
  · rw [if_pos c, if_pos c, ix0 _ (by have := okX_get hX c; omega)]
  · rw [if_neg c, if_neg c, ixE.1, ixN 0 (by decide)]
theorem squareH {tx : List Nat} (hX : okX tx) (q : Nat) : K_M_squareOf (chM tx q) = some (lt tx 1 q) := by
  unfold chM lt chC
  by_cases c : q < tx.length
  · rw [if_pos c, if_pos c, ix1 _ (by have := okX_get hX c; omega)]
  · rw [if_neg c, if_neg c, ixE.2.1, ixN 1 (by decide)]
theorem strokeH {tx : List Nat} (hX : okX tx) (q : Nat) : K_M_strokeOf (chM tx q) = some (lt tx 2 q) := by
  unfold chM lt chC
  by_cases c : q < tx.length
  · rw [if_pos c, if_pos c, ix2 _ (by have := okX_get hX c; omega)]
  · rw [if_neg c, if_neg c, ixE.2.2, ixN 2 (by decide)]
/-- the class's reader -/
def cX (tx : List Nat) (F : Nat) (P : Int32) (p : Nat) (g : Hp) : Prop := F ≤ 4 ∧ cLx tx p g ∧ g 70 6 = nI F ∧ g 70 7 = P
def mX (tx : List Nat) (P : Int32) (p : Nat) (f : Hp) : Prop := mLx tx p f ∧ f 100 10 = 0 ∧ f 100 11 = P
theorem ffl_le {F n : Nat} {P : Int32} {q : Nat} (hF : F ≤ 4) (hn : n ≤ 4) : (ffl F P n q).1 ≤ 4 := by
  unfold ffl
  split
  · split
    · exact Nat.zero_le _
    · exact hn
  · exact hF
theorem failX {tx : List Nat} {F : Nat} {P : Int32} {p : Nat} {g : Hp} (h : cX tx F P p g) {n q : Nat} (hn : 1 ≤ n ∧ n ≤ 4) : ∃ g', K_Reader_fail (nI n) (nI q) g = some g' ∧ frN g g' ∧ cX tx (ffl F P n q).1 (ffl F P n q).2 p g' ∧ g' 70 3 = g 70 3 ∧ g' 70 5 = g 70 5 := by
  obtain ⟨h1, h2, h3, h4⟩ := h
  obtain ⟨g', z1, z2, z3, z4, z5⟩ := failC h1 h3 h4 (n := n) (q := q) hn
  have fr : frN g g' := ⟨z4, fun f hf => z5 f (ne_of_nm hf (by decide)) (ne_of_nm hf (by decide))⟩
  exact ⟨g', z1, fr, ⟨ffl_le h1 hn.2, cLx_of h2 fr ((z5 3 (by decide) (by decide)).trans h2.2.1) h2.2.2.1, z2, z3⟩, z5 3 (by decide) (by decide), z5 5 (by decide) (by decide)⟩
theorem cX_at {tx : List Nat} {F : Nat} {P : Int32} {p q : Nat} {g : Hp} (h : cX tx F P p g) (hq : q ≤ tx.length) : cX tx F P q (hset g 70 3 (nI q)) := ⟨h.1, cLx_at h.2.1 hq, by rw [hset_at, upd_ne _ _ (by decide)]; exact h.2.2.1, by rw [hset_at, upd_ne _ _ (by decide)]; exact h.2.2.2⟩
theorem oneC {tx : List Nat} (hX : okX tx) {F : Nat} {P : Int32} {p : Nat} {g : Hp} (h : cX tx F P p g) (N : Nat) (hN : 200 < N) {i : Nat} (hi : i < 3) : ∃ k g', K_Reader_readOneOf N i g = some (nI k, g') ∧ frN g g' ∧ k ≤ MXL i ∧ ((lt tx i (skp tx p) = -1 ∧ cX tx (ffl F P 1 (skp tx p)).1 (ffl F P 1 (skp tx p)).2 (skp tx p) g') ∨ (lt tx i (skp tx p) ≠ -1 ∧ k = kk tx i (skp tx p) ∧ cX tx F P (skp tx p + 1) g')) := by
  have n64 := hX.1
  have pl := h.2.1.2.2.1
  have sl := skp_le pl
  have b := cX_at (q := skp tx p) h sl.2
  have fr0 : frN g (hset g 70 3 (nI (skp tx p))) := frN_set (frN_refl g) (by decide) _
  unfold K_Reader_readOneOf
  rw [skipC hX h.2.1 N hN, bd_s, letterC hX b.2.1, bd_s, show idxK i (Int32.toUInt32 (nI (chC tx (skp tx p))) % 65536).toInt32 = lt tx i (skp tx p) from rfl, b.2.1.2.1]
  rw [show ∀ k : Int32 → Option (Int32 × Hp), nm (lt tx i (skp tx p)) k = k (lt tx i (skp tx p)) from fun _ => rfl]
  rcases lt_or hX hi (skp tx p) with e | ⟨e, bb⟩
  · obtain ⟨g', z1, z2, z3, z4, z5⟩ := failX b (n := 1) (q := skp tx p) (by omega)
    have z1 : K_Reader_fail 1 (nI (skp tx p)) (hset g 70 3 (nI (skp tx p))) = some g' := z1
    rw [e, if_neg (by decide), z1, bd_s]
    exact ⟨0, g', rfl, frN_trans fr0 z2, Nat.zero_le _, .inl ⟨rfl, z3⟩⟩
  · have ne : lt tx i (skp tx p) ≠ -1 := fun z => by
      have := MXL_le i
      exact absurd ((lt_neg hX hi (skp tx p)).mpr z) (by rw [e]; exact nI_not_neg (by omega))
    have lin := lt_in hi ne
    have := MXL_le i
    have e3 : ∀ x : Int32, x = nI (kk tx i (skp tx p)) → (if (0 : Int32) ≤ x then (nm (hset (hset g 70 3 (nI (skp tx p))) 70 3 (nI (skp tx p) + 1)) fun h36 => some (x, h36)) else bd (K_Reader_fail 1 (nI (skp tx p)) (hset g 70 3 (nI (skp tx p)))) fun h24 => some (0, h24)) = some (nI (kk tx i (skp tx p)), hset (hset g 70 3 (nI (skp tx p))) 70 3 (nI (skp tx p + 1))) := fun x ex => by
      rw [ex, if_pos (show (0 : Int32) ≤ nI (kk tx i (skp tx p)) from (nI_le_iff (a := 0) (by omega) (by omega)).mpr (Nat.zero_le _)), show nI (skp tx p) + 1 = nI (skp tx p + 1) from nI_add (skp tx p) 1, nm_s]
    exact ⟨_, _, e3 _ e, frN_set fr0 (by decide) _, bb, .inr ⟨ne, rfl, cX_at b lin⟩⟩
/-- the reference at a letter, no fault so far -/
theorem hereX {tx : List Nat} (hX : okX tx) {P : Int32} {p : Nat} {f : Hp} (h : mX tx P p f) (N : Nat) (hN : 200 < N) : ∃ f', K_M_here N f = some (chM tx (skp tx p), f') ∧ frM f f' ∧ mX tx P (skp tx p) f' := by
  have sl := skp_le h.1.2.2.1
  exact ⟨_, hereM hX h.1 N hN, frM_set (frM_refl f) (by decide) _, mLx_at h.1 sl.2, by rw [hset_at, upd_ne _ _ (by decide)]; exact h.2.1, by rw [hset_at, upd_ne _ _ (by decide)]; exact h.2.2⟩
/-- the reference's want, no fault so far -/
theorem wantX {tx : List Nat} {P : Int32} {p : Nat} {f : Hp} (h : mX tx P p f) (x : Bool) {n : Nat} (hn : 1 ≤ n ∧ n ≤ 4) (c : Int32) : ∃ f', K_M_want (if x then 1 else 0) (nI n) c f = some (if x then 1 else 0, f') ∧ frM f f' ∧ (x = true → f' = f) ∧ (x = false → f' 100 10 = nI n ∧ f' 100 11 = c) := by
  cases x
  · exact ⟨_, want0 h.2.1 hn c, frM_set (frM_set (frM_refl f) (by decide) _) (by decide) _, fun z => absurd z (by decide), fun _ => ⟨by rw [hset_at, upd_ne _ _ (by decide), hset_at, upd_at], by rw [hset_at, upd_at]⟩⟩
  · exact ⟨f, want1 h.2.1 _ c, frM_refl f, fun _ => rfl, fun z => absurd z (by decide)⟩
/-- where letter n of a run begins -/
def psq (tx : List Nat) (p : Nat) : Nat → Nat
  | 0 => p
  | n + 1 => skp tx (psq tx p n) + 1
/-- the first bad one of e -/
def bdl (tx : List Nat) (i p e : Nat) : Nat := fs (fun n => decide (lt tx i (skp tx (psq tx p n)) = -1)) e
theorem bdl_ok {tx : List Nat} {i p e n : Nat} (h : n < bdl tx i p e) : lt tx i (skp tx (psq tx p n)) ≠ -1 := of_decide_eq_false (fs_lt (fun n => decide (lt tx i (skp tx (psq tx p n)) = -1)) h)
theorem bdl_bad {tx : List Nat} {i p e : Nat} (h : bdl tx i p e < e) : lt tx i (skp tx (psq tx p (bdl tx i p e))) = -1 := of_decide_eq_true (fs_at (fun n => decide (lt tx i (skp tx (psq tx p n)) = -1)) h)
theorem bdl_eq {tx : List Nat} {i p e n : Nat} (h : n < e) (hb : lt tx i (skp tx (psq tx p n)) = -1) (ho : ∀ j, j < n → lt tx i (skp tx (psq tx p j)) ≠ -1) : bdl tx i p e = n := fs_eq _ h (decide_eq_true hb) (fun j hj => decide_eq_false (ho j hj))
theorem bdl_all {tx : List Nat} {i p e : Nat} (ho : ∀ j, j < e → lt tx i (skp tx (psq tx p j)) ≠ -1) : bdl tx i p e = e := by
  by_cases c : bdl tx i p e < e
  · exact absurd (bdl_bad c) (ho _ c)
  · have := fs_le (fun n => decide (lt tx i (skp tx (psq tx p n)) = -1)) e
    unfold bdl at c ⊢
    omega
theorem psq_le {tx : List Nat} {i p e : Nat} (hi : i < 3) (hp : p ≤ tx.length) : ∀ n, n ≤ bdl tx i p e → psq tx p n ≤ tx.length
  | 0, _ => hp
  | n + 1, h => by
    have := lt_in hi (bdl_ok (tx := tx) (i := i) (p := p) (e := e) (n := n) (by omega))
    show skp tx (psq tx p n) + 1 ≤ tx.length
    omega
