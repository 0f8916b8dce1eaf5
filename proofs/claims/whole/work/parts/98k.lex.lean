/-! the text, letter by letter, on either side -/
def okX (tx : List Nat) : Prop := tx.length ≤ 64 ∧ ∀ c ∈ tx, c < 256
theorem okX_get {tx : List Nat} (h : okX tx) {j : Nat} (hj : j < tx.length) : tx.getD j 0 < 256 := h.2 _ (getD_mem hj)
def cLx (tx : List Nat) (p : Nat) (g : Hp) : Prop := g 70 1 = nI tx.length ∧ g 70 3 = nI p ∧ p ≤ tx.length ∧ ∀ j, j < tx.length → g 2 j = nI (tx.getD j 0)
def mLx (tx : List Nat) (p : Nat) (f : Hp) : Prop := f 100 7 = nI tx.length ∧ f 100 8 = nI p ∧ p ≤ tx.length ∧ ∀ j, j < tx.length → f 106 j = nI (tx.getD j 0)
/-- behind the blanks -/
def skp (tx : List Nat) (p : Nat) : Nat := p + fs (fun i => decide (tx.getD (p + i) 0 ≠ 32)) (tx.length - p)
theorem skp_le {tx : List Nat} {p : Nat} (h : p ≤ tx.length) : p ≤ skp tx p ∧ skp tx p ≤ tx.length := by
  have := fs_le (fun i => decide (tx.getD (p + i) 0 ≠ 32)) (tx.length - p)
  unfold skp
  omega
theorem skp_at {tx : List Nat} {p : Nat} (h : p ≤ tx.length) (hl : skp tx p < tx.length) : tx.getD (skp tx p) 0 ≠ 32 := by
  have a : fs (fun i => decide (tx.getD (p + i) 0 ≠ 32)) (tx.length - p) < tx.length - p := by unfold skp at hl; omega
  exact of_decide_eq_true (fs_at (fun i => decide (tx.getD (p + i) 0 ≠ 32)) a)
theorem skp_idem {tx : List Nat} {p : Nat} (h : p ≤ tx.length) : skp tx (skp tx p) = skp tx p := by
  have a := skp_le h
  by_cases c : skp tx p < tx.length
  · have b := skp_at h c
    have : fs (fun i => decide (tx.getD (skp tx p + i) 0 ≠ 32)) (tx.length - skp tx p) = 0 := fs_eq _ (by omega) (decide_eq_true (by rw [Nat.add_zero]; exact b)) (fun j hj => absurd hj (Nat.not_lt_zero _))
    show skp tx p + fs (fun i => decide (tx.getD (skp tx p + i) 0 ≠ 32)) (tx.length - skp tx p) = skp tx p
    rw [this]; rfl
  · show skp tx p + fs (fun i => decide (tx.getD (skp tx p + i) 0 ≠ 32)) (tx.length - skp tx p) = skp tx p
    have := fs_le (fun i => decide (tx.getD (skp tx p + i) 0 ≠ 32)) (tx.length - skp tx p)
    omega
theorem cLx_at {tx : List Nat} {p q : Nat} {g : Hp} (h : cLx tx p g) (hq : q ≤ tx.length) : cLx tx q (hset g 70 3 (nI q)) := ⟨by rw [hset_at, upd_ne _ _ (by decide)]; exact h.1, by rw [hset_at, upd_at], hq, fun j hj => by rw [hset_ne _ _ _ (by decide)]; exact h.2.2.2 j hj⟩
theorem mLx_at {tx : List Nat} {p q : Nat} {f : Hp} (h : mLx tx p f) (hq : q ≤ tx.length) : mLx tx q (hset f 100 8 (nI q)) := ⟨by rw [hset_at, upd_ne _ _ (by decide)]; exact h.1, by rw [hset_at, upd_at], hq, fun j hj => by rw [hset_ne _ _ _ (by decide)]; exact h.2.2.2 j hj⟩
theorem skipC {tx : List Nat} (hX : okX tx) {p : Nat} {g : Hp} (h : cLx tx p g) (N : Nat) (hN : 200 < N) : K_Reader_skipBlanks N g = some (hset g 70 3 (nI (skp tx p))) := by
  have n64 := hX.1
  have pl := h.2.2.1
  have sl := skp_le pl
  have e0 : hset g 70 3 (nI (p + 0)) = g := hset_id h.2.1
  have l := loopN_for (fun z_ : Hp => K_Reader_skipBlanks_L0 N z_) (fun i => hset g 70 3 (nI (p + i))) (fs (fun i => decide (tx.getD (p + i) 0 ≠ 32)) (tx.length - p)) (hset g 70 3 (nI (skp tx p))) (fun i hi => by
      have hi2 : p + i < tx.length := by unfold skp at sl; omega
      have a := cLx_at (q := p + i) h (by omega)
      have b : tx.getD (p + i) 0 = 32 := Decidable.not_not.mp (of_decide_eq_false (fs_lt (fun i => decide (tx.getD (p + i) 0 ≠ 32)) hi))
      show K_Reader_skipBlanks_L0 N (hset g 70 3 (nI (p + i))) = _
      unfold K_Reader_skipBlanks_L0
      rw [a.1, a.2.1, if_neg (fun q => by have := (nI_le_iff (by omega) (by omega)).mp q; omega), if_neg (show ¬ (250 : Int32) ≤ nI (p + i) from fun q => by have := (nI_le_iff (a := 250) (by omega) (by omega)).mp q; omega), gA_nI (by omega) (by omega), a.2.2.2 _ hi2, b, if_pos (show nI 32 = 32 from rfl), show nI (p + i) + 1 = nI (p + (i + 1)) from nI_add (p + i) 1, hset_hset, nm_s]) (by
      show K_Reader_skipBlanks_L0 N (hset g 70 3 (nI (skp tx p))) = _
      have a := cLx_at (q := skp tx p) h sl.2
      unfold K_Reader_skipBlanks_L0
      rw [a.1, a.2.1]
      by_cases c : tx.length ≤ skp tx p
      · rw [if_pos ((nI_le_iff (by omega) (by omega)).mpr c)]
      · have hl : skp tx p < tx.length := by omega
        have b := skp_at pl hl
        have cl := okX_get hX hl
        rw [if_neg (fun q => c ((nI_le_iff (by omega) (by omega)).mp q)), if_neg (show ¬ (250 : Int32) ≤ nI (skp tx p) from fun q => by have := (nI_le_iff (a := 250) (by omega) (by omega)).mp q; omega), gA_nI (by omega) (by omega), a.2.2.2 _ hl, if_neg (show ¬ nI (tx.getD (skp tx p) 0) = 32 from fun q => b ((nI_eq_iff (b := 32) (by omega) (by omega)).mp q))]) (N := N) (by have := fs_le (fun i => decide (tx.getD (p + i) 0 ≠ 32)) (tx.length - p); omega)
  unfold K_Reader_skipBlanks
  have l : loopN (fun z_ : Hp => K_Reader_skipBlanks_L0 N z_) N (hset g 70 3 (nI (p + 0))) = _ := l
  rw [e0] at l
  rw [l, bd_s]
/-- the letter there; nothing at the end -/
def chC (tx : List Nat) (p : Nat) : Nat := if p < tx.length then tx.getD p 0 else 256
theorem chC_le {tx : List Nat} (hX : okX tx) (p : Nat) : chC tx p ≤ 256 := by
  unfold chC
  by_cases c : p < tx.length
  · rw [if_pos c]; have := okX_get hX c; omega
  · rw [if_neg c]; exact Nat.le_refl _
theorem letterC {tx : List Nat} (hX : okX tx) {p : Nat} {g : Hp} (h : cLx tx p g) : K_Reader_letterHere g = some (nI (chC tx p)) := by
  have n64 := hX.1
  have pl := h.2.2.1
  unfold K_Reader_letterHere chC
  rw [h.1, h.2.1, if_neg (nI_not_neg (by omega))]
  by_cases c : tx.length ≤ p
  · rw [if_pos ((nI_le_iff (by omega) (by omega)).mpr c), if_neg (by omega)]; rfl
  · rw [if_neg (fun q => c ((nI_le_iff (by omega) (by omega)).mp q)), if_neg (show ¬ (250 : Int32) ≤ nI p from fun q => by have := (nI_le_iff (a := 250) (by omega) (by omega)).mp q; omega), gA_nI (by omega) (by omega), h.2.2.2 _ (by omega), if_pos (by omega)]
/-- the same for the reference: -1 at the end -/
def chM (tx : List Nat) (p : Nat) : Int32 := if p < tx.length then nI (tx.getD p 0) else -1
theorem hereM {tx : List Nat} (hX : okX tx) {p : Nat} {f : Hp} (h : mLx tx p f) (N : Nat) (hN : 200 < N) : K_M_here N f = some (chM tx (skp tx p), hset f 100 8 (nI (skp tx p))) := by
  have n64 := hX.1
  have pl := h.2.2.1
  have sl := skp_le pl
  have e0 : hset f 100 8 (nI (p + 0)) = f := hset_id h.2.1
  have l := loopN_for (fun z_ : Hp => K_M_here_L0 N z_) (fun i => hset f 100 8 (nI (p + i))) (fs (fun i => decide (tx.getD (p + i) 0 ≠ 32)) (tx.length - p)) (hset f 100 8 (nI (skp tx p))) (fun i hi => by
      have hi2 : p + i < tx.length := by unfold skp at sl; omega
      have a := mLx_at (q := p + i) h (by omega)
      have b : tx.getD (p + i) 0 = 32 := Decidable.not_not.mp (of_decide_eq_false (fs_lt (fun i => decide (tx.getD (p + i) 0 ≠ 32)) hi))
      show K_M_here_L0 N (hset f 100 8 (nI (p + i))) = _
      unfold K_M_here_L0
      rw [a.1, a.2.1, if_neg (fun q => by have := (nI_le_iff (by omega) (by omega)).mp q; omega), gA_nI (by omega) (by omega), a.2.2.2 _ hi2, b, if_pos (show nI 32 = 32 from rfl), show nI (p + i) + 1 = nI (p + (i + 1)) from nI_add (p + i) 1, hset_hset, nm_s]) (by
      show K_M_here_L0 N (hset f 100 8 (nI (skp tx p))) = _
      have a := mLx_at (q := skp tx p) h sl.2
      unfold K_M_here_L0
      rw [a.1, a.2.1]
      by_cases c : tx.length ≤ skp tx p
      · rw [if_pos ((nI_le_iff (by omega) (by omega)).mpr c)]
      · have hl : skp tx p < tx.length := by omega
        have b := skp_at pl hl
        have cl := okX_get hX hl
        rw [if_neg (fun q => c ((nI_le_iff (by omega) (by omega)).mp q)), gA_nI (by omega) (by omega), a.2.2.2 _ hl, if_neg (show ¬ nI (tx.getD (skp tx p) 0) = 32 from fun q => b ((nI_eq_iff (b := 32) (by omega) (by omega)).mp q))]) (N := N) (by have := fs_le (fun i => decide (tx.getD (p + i) 0 ≠ 32)) (tx.length - p); omega)
  have l : loopN (fun z_ : Hp => K_M_here_L0 N z_) N (hset f 100 8 (nI (p + 0))) = _ := l
  rw [e0] at l
  unfold K_M_here
  rw [l, bd_s]
  have a := mLx_at (q := skp tx p) h sl.2
  unfold K_M_here_J38 chM
  rw [a.1, a.2.1]
  by_cases c : tx.length ≤ skp tx p
  · rw [if_pos ((nI_le_iff (by omega) (by omega)).mpr c), if_neg (by omega)]
  · rw [if_neg (fun q => c ((nI_le_iff (by omega) (by omega)).mp q)), gA_nI (by omega) (by omega), a.2.2.2 _ (by omega), if_pos (by omega)]
/-! numbers -/
def isD (c : Nat) : Prop := 48 ≤ c ∧ c ≤ 57
theorem figC : ∀ c, c ≤ 256 → K_Reader_isFigure (nI c) = some (if 48 ≤ c ∧ c ≤ 57 then 1 else 0) := by decide +kernel
/-- how many figures from q on -/
def dgt (tx : List Nat) (q : Nat) : Nat := fs (fun i => decide (¬ (48 ≤ tx.getD (q + i) 0 ∧ tx.getD (q + i) 0 ≤ 57))) (tx.length - q)
/-- the value of so many, held back once it is large -/
def vr (tx : List Nat) (q : Nat) : Nat → Nat
  | 0 => 0
  | i + 1 => if vr tx q i ≤ 99999 then 10 * vr tx q i + (tx.getD (q + i) 0 - 48) else vr tx q i
theorem vr_b (tx : List Nat) (q : Nat) (h : ∀ i, tx.getD (q + i) 0 < 256) : ∀ i, vr tx q i ≤ 1000300
  | 0 => Nat.zero_le _
  | i + 1 => by
    have a := vr_b tx q h i
    have b := h i
    show (if vr tx q i ≤ 99999 then 10 * vr tx q i + (tx.getD (q + i) 0 - 48) else vr tx q i) ≤ _
    split <;> omega
theorem getD_256 {tx : List Nat} (hX : okX tx) (j : Nat) : tx.getD j 0 < 256 := by
  by_cases c : j < tx.length
  · exact okX_get hX c
  · rw [List.getD_eq_getElem?_getD, List.getElem?_eq_none (by omega)]
    decide
theorem dgt_le {tx : List Nat} {q : Nat} (h : q ≤ tx.length) : q + dgt tx q ≤ tx.length := by
  have := fs_le (fun i => decide (¬ (48 ≤ tx.getD (q + i) 0 ∧ tx.getD (q + i) 0 ≤ 57))) (tx.length - q)
  unfold dgt
  omega
theorem dgt_d {tx : List Nat} {q i : Nat} (h : i < dgt tx q) : 48 ≤ tx.getD (q + i) 0 ∧ tx.getD (q + i) 0 ≤ 57 := Decidable.not_not.mp (of_decide_eq_false (fs_lt (fun i => decide (¬ (48 ≤ tx.getD (q + i) 0 ∧ tx.getD (q + i) 0 ≤ 57))) h))
theorem dgt_e {tx : List Nat} {q : Nat} (hq : q ≤ tx.length) (h : q + dgt tx q < tx.length) : ¬ (48 ≤ tx.getD (q + dgt tx q) 0 ∧ tx.getD (q + dgt tx q) 0 ≤ 57) := by
  have a : dgt tx q < tx.length - q := by omega
  exact of_decide_eq_true (fs_at (fun i => decide (¬ (48 ≤ tx.getD (q + i) 0 ∧ tx.getD (q + i) 0 ≤ 57))) a)
/-- small values: up to three figures -/
theorem vr_3 {tx : List Nat} {q : Nat} : ∀ i, i ≤ 3 → i ≤ dgt tx q → vr tx q i < 10 ^ i
  | 0, _, _ => by show 0 < 1; omega
  | i + 1, h, hd => by
    have a := vr_3 (tx := tx) (q := q) i (by omega) (by omega)
    have d := dgt_d (tx := tx) (q := q) (i := i) (by omega)
    show (if vr tx q i ≤ 99999 then 10 * vr tx q i + (tx.getD (q + i) 0 - 48) else vr tx q i) < 10 ^ (i + 1)
    rcases (by omega : i = 0 ∨ i = 1 ∨ i = 2) with c | c | c <;> subst c
    · have a : vr tx q 0 < 1 := a
      rw [if_pos (by omega)]
      show _ < 10
      omega
    · have a : vr tx q 1 < 10 := a
      rw [if_pos (by omega)]
      show _ < 100
      omega
    · have a : vr tx q 2 < 100 := a
      rw [if_pos (by omega)]
      show _ < 1000
      omega
/-- what is wrong with a number: 0 nothing -/
def nF (tx : List Nat) (q lo hi : Nat) : Nat := if dgt tx q = 0 then 1 else if 3 < dgt tx q then 2 else if lo ≤ vr tx q (dgt tx q) ∧ vr tx q (dgt tx q) ≤ hi then 0 else 2
/-- what the class changes while it reads a number -/
def frN (g g' : Hp) : Prop := (∀ r, r ≠ 70 → g' r = g r) ∧ ∀ f, f ∉ ([3, 5, 6, 7] : List Nat) → g' 70 f = g 70 f
theorem cLx_of {tx : List Nat} {p q : Nat} {g g' : Hp} (h : cLx tx p g) (e : frN g g') (e3 : g' 70 3 = nI q) (hq : q ≤ tx.length) : cLx tx q g' := ⟨by rw [e.2 1 (by decide)]; exact h.1, e3, hq, fun j hj => by rw [e.1 2 (by decide)]; exact h.2.2.2 j hj⟩
/-- the first fault stays -/
def ffl (F : Nat) (P : Int32) (n : Nat) (q : Nat) : Nat × Int32 := if F = 0 then (if n = 0 then (0, P) else (n, nI q)) else (F, P)
theorem failC {g : Hp} {F : Nat} {P : Int32} (hF : F ≤ 4) (h6 : g 70 6 = nI F) (h7 : g 70 7 = P) {n q : Nat} (hn : 1 ≤ n ∧ n ≤ 4) : ∃ g', K_Reader_fail (nI n) (nI q) g = some g' ∧ g' 70 6 = nI (ffl F P n q).1 ∧ g' 70 7 = (ffl F P n q).2 ∧ (∀ r, r ≠ 70 → g' r = g r) ∧ ∀ f, f ≠ 6 → f ≠ 7 → g' 70 f = g 70 f := by
  unfold K_Reader_fail ffl
  by_cases c : F = 0
  · rw [h6, if_pos (show nI F = 0 by rw [c]; rfl), if_pos c, if_neg (by omega), nm_s, nm_s]
    exact ⟨_, rfl, by rw [hset_at, upd_ne _ _ (by decide), hset_at, upd_at], by rw [hset_at, upd_at], fun r hr => by rw [hset_ne _ _ _ hr, hset_ne _ _ _ hr], fun f h1 h2 => by rw [hset_at, upd_ne _ _ h2, hset_at, upd_ne _ _ h1]⟩
  · rw [h6, if_neg (show ¬ nI F = 0 from fun q => c ((nI_eq_iff (b := 0) (by omega) (by omega)).mp q)), if_neg c]
    exact ⟨g, rfl, h6, h7, fun _ _ => rfl, fun _ _ _ => rfl⟩
theorem numC {tx : List Nat} (hX : okX tx) {p : Nat} {g : Hp} (h : cLx tx p g) (N : Nat) (hN : 200 < N) {F : Nat} {P : Int32} (hF : F ≤ 4) (h6 : g 70 6 = nI F) (h7 : g 70 7 = P) {lo hi : Nat} (hlo : lo ≤ 1000) (hhi : hi ≤ 1000) : ∃ g', K_Reader_readNumber N (nI lo) (nI hi) g = some (if (ffl F P (nF tx (skp tx p) lo hi) (skp tx p)).1 = 0 then nI (vr tx (skp tx p) (dgt tx (skp tx p))) else nI lo, g') ∧ frN g g' ∧ cLx tx (skp tx p + dgt tx (skp tx p)) g' ∧ g' 70 5 = nI (skp tx p) ∧ g' 70 6 = nI (ffl F P (nF tx (skp tx p) lo hi) (skp tx p)).1 ∧ g' 70 7 = (ffl F P (nF tx (skp tx p) lo hi) (skp tx p)).2 := by
  have n64 := hX.1
  have pl := h.2.2.1
  have sl := skp_le pl
  unfold K_Reader_readNumber
  rw [skipC hX h N hN, bd_s, show (hset g 70 3 (nI (skp tx p))) 70 3 = nI (skp tx p) by rw [hset_at, upd_at], nm_s]
  generalize skp tx p = q at sl ⊢
  have dl := dgt_le (tx := tx) (q := q) sl.2
  have vb := vr_b tx q (fun i => getD_256 hX _)
  have frame : ∀ i, frN g (hset (hset (hset g 70 3 (nI q)) 70 5 (nI q)) 70 3 (nI (q + i))) := fun i => ⟨fun r hr => by rw [hset_ne _ _ _ hr, hset_ne _ _ _ hr, hset_ne _ _ _ hr], fun f hf => by rw [hset_at, upd_ne _ _ (ne_of_nm hf (by decide)), hset_at, upd_ne _ _ (ne_of_nm hf (by decide)), hset_at, upd_ne _ _ (ne_of_nm hf (by decide))]⟩
  have a3 : ∀ i, (hset (hset (hset g 70 3 (nI q)) 70 5 (nI q)) 70 3 (nI (q + i))) 70 3 = nI (q + i) := fun i => by rw [hset_at, upd_at]
  have a5 : ∀ i, (hset (hset (hset g 70 3 (nI q)) 70 5 (nI q)) 70 3 (nI (q + i))) 70 5 = nI q := fun i => by rw [hset_at, upd_ne _ _ (by decide), hset_at, upd_at]
  have a6 : ∀ i, (hset (hset (hset g 70 3 (nI q)) 70 5 (nI q)) 70 3 (nI (q + i))) 70 6 = nI F := fun i => by rw [hset_at, upd_ne _ _ (by decide), hset_at, upd_ne _ _ (by decide), hset_at, upd_ne _ _ (by decide)]; exact h6
  have a7 : ∀ i, (hset (hset (hset g 70 3 (nI q)) 70 5 (nI q)) 70 3 (nI (q + i))) 70 7 = P := fun i => by rw [hset_at, upd_ne _ _ (by decide), hset_at, upd_ne _ _ (by decide), hset_at, upd_ne _ _ (by decide)]; exact h7
  have e0 : hset (hset (hset g 70 3 (nI q)) 70 5 (nI q)) 70 3 (nI (q + 0)) = hset (hset g 70 3 (nI q)) 70 5 (nI q) := hset_id (by rw [hset_at, upd_ne _ _ (by decide), hset_at, upd_at]; rfl)
  have l := loopN_for (fun z_ : Int32 × Hp => K_Reader_readNumber_L14 N (nI lo) (nI hi) z_.1 z_.2) (fun i => (nI (vr tx q (min i 3)), hset (hset (hset g 70 3 (nI q)) 70 5 (nI q)) 70 3 (nI (q + i)))) (dgt tx q) (nI (vr tx q (min (dgt tx q) 3)), hset (hset (hset g 70 3 (nI q)) 70 5 (nI q)) 70 3 (nI (q + dgt tx q))) (fun i hi2 => by
      have b := cLx_of h (frame i) (a3 i) (by omega)
      have d := dgt_d hi2
      have lc : K_Reader_letterHere (hset (hset (hset g 70 3 (nI q)) 70 5 (nI q)) 70 3 (nI (q + i))) = some (nI (tx.getD (q + i) 0)) := by
        rw [letterC hX b]
        unfold chC
        rw [if_pos (by omega)]
      show K_Reader_readNumber_L14 N (nI lo) (nI hi) (nI (vr tx q (min i 3))) (hset (hset (hset g 70 3 (nI q)) 70 5 (nI q)) 70 3 (nI (q + i))) = _
      unfold K_Reader_readNumber_L14 K_Reader_readNumber_J61
      rw [lc, bd_s, bd_s, figC _ (by omega), bd_s, b.1, a3 i, a5 i, if_neg (fun z => by have := (nI_le_iff (by omega) (by omega)).mp z; omega), if_pos d, if_neg (show ¬ (1 : Int32) = 0 by decide), nI_sub (by omega), show q + i - q = i by omega, show nI (q + i) + 1 = nI (q + (i + 1)) from nI_add (q + i) 1, hset_hset, nm_s, nm_s]
      by_cases c : 3 ≤ i
      · rw [if_pos (show (3 : Int32) ≤ nI i from (nI_le_iff (a := 3) (by omega) (by omega)).mpr c), show min (i + 1) 3 = 3 by omega, show min i 3 = 3 by omega]
      · have v2 := vr_3 (tx := tx) (q := q) i (by omega) (by omega)
        have v3 : vr tx q i < 100 := Nat.lt_of_lt_of_le v2 (Nat.pow_le_pow_right (by decide) (by omega : i ≤ 2))
        have ev : vr tx q (i + 1) = 10 * vr tx q i + (tx.getD (q + i) 0 - 48) := by
          show (if vr tx q i ≤ 99999 then 10 * vr tx q i + (tx.getD (q + i) 0 - 48) else vr tx q i) = _
          rw [if_pos (by omega)]
        rw [if_neg (show ¬ (3 : Int32) ≤ nI i from fun z => c ((nI_le_iff (a := 3) (by omega) (by omega)).mp z)), show min (i + 1) 3 = i + 1 by omega, show min i 3 = i by omega, ev, show (10 : Int32) = nI 10 from rfl, nI_mul, nI_add, show (48 : Int32) = nI 48 from rfl, nI_sub (by omega), nm_s, show 10 * vr tx q i + tx.getD (q + i) 0 - 48 = 10 * vr tx q i + (tx.getD (q + i) 0 - 48) by omega]) (by
      have b := cLx_of h (frame (dgt tx q)) (a3 _) dl
      show K_Reader_readNumber_L14 N (nI lo) (nI hi) (nI (vr tx q (min (dgt tx q) 3))) (hset (hset (hset g 70 3 (nI q)) 70 5 (nI q)) 70 3 (nI (q + dgt tx q))) = _
      unfold K_Reader_readNumber_L14
      rw [b.1, a3]
      by_cases c : tx.length ≤ q + dgt tx q
      · rw [if_pos ((nI_le_iff (by omega) (by omega)).mpr c)]
      · have e := dgt_e sl.2 (by omega)
        have lc : K_Reader_letterHere (hset (hset (hset g 70 3 (nI q)) 70 5 (nI q)) 70 3 (nI (q + dgt tx q))) = some (nI (tx.getD (q + dgt tx q) 0)) := by
          rw [letterC hX b]
          unfold chC
          rw [if_pos (by omega)]
        rw [if_neg (fun z => c ((nI_le_iff (by omega) (by omega)).mp z)), lc, bd_s, figC _ (by have := getD_256 hX (q + dgt tx q); omega), bd_s, if_neg e, if_pos rfl]) (N := N) (by omega)
  have l : loopN (fun z_ : Int32 × Hp => K_Reader_readNumber_L14 N (nI lo) (nI hi) z_.1 z_.2) N (0, hset (hset (hset g 70 3 (nI q)) 70 5 (nI q)) 70 3 (nI (q + 0))) = _ := l
  rw [e0] at l
  rw [l, bd_s]
  show ∃ g', K_Reader_readNumber_J74 N (nI lo) (nI hi) (nI (vr tx q (min (dgt tx q) 3))) (hset (hset (hset g 70 3 (nI q)) 70 5 (nI q)) 70 3 (nI (q + dgt tx q))) = _ ∧ _
  have b3 := a3 (dgt tx q)
  have b5 := a5 (dgt tx q)
  have b6 := a6 (dgt tx q)
  have b7 := a7 (dgt tx q)
  have bf := frame (dgt tx q)
  have bx := cLx_of h bf b3 dl
  generalize hset (hset (hset g 70 3 (nI q)) 70 5 (nI q)) 70 3 (nI (q + dgt tx q)) = g1 at b3 b5 b6 b7 bf bx ⊢
  -- how it ends
  have j127 : ∀ (x : Int32) (n : Nat) (g2 : Hp), frN g g2 → cLx tx (q + dgt tx q) g2 → g2 70 5 = nI q → g2 70 6 = nI (ffl F P n q).1 → g2 70 7 = (ffl F P n q).2 → n ≤ 4 → n = nF tx q lo hi → ((ffl F P n q).1 = 0 → x = nI (vr tx q (dgt tx q))) → ∃ g', K_Reader_readNumber_J127 N (nI lo) x g2 = some (if (ffl F P (nF tx q lo hi) q).1 = 0 then nI (vr tx q (dgt tx q)) else nI lo, g') ∧ frN g g' ∧ cLx tx (q + dgt tx q) g' ∧ g' 70 5 = nI q ∧ g' 70 6 = nI (ffl F P (nF tx q lo hi) q).1 ∧ g' 70 7 = (ffl F P (nF tx q lo hi) q).2 := by
    intro x n g2 h1 h2 h3 h4 h5 h6 h7 h8
    subst h7
    have fb : (ffl F P (nF tx q lo hi) q).1 ≤ 4 := by
      unfold ffl
      split
      · split
        · exact Nat.zero_le _
        · exact h6
      · exact hF
    unfold K_Reader_readNumber_J127
    rw [h4]
    by_cases c : (ffl F P (nF tx q lo hi) q).1 = 0
    · rw [if_pos (show nI (ffl F P (nF tx q lo hi) q).1 = 0 by rw [c]; rfl), if_pos c, h8 c]
      exact ⟨g2, rfl, h1, h2, h3, h4, h5⟩
    · rw [if_neg (show ¬ nI (ffl F P (nF tx q lo hi) q).1 = 0 from fun z => c ((nI_eq_iff (b := 0) (by omega) (by omega)).mp z)), if_neg c]
      exact ⟨g2, rfl, h1, h2, h3, h4, h5⟩
  have bad : ∀ (x : Int32) (n : Nat), 1 ≤ n → n ≤ 4 → n = nF tx q lo hi → ∃ g', bd (K_Reader_fail (nI n) (nI q) g1) (fun h96 => K_Reader_readNumber_J127 N (nI lo) x h96) = some (if (ffl F P (nF tx q lo hi) q).1 = 0 then nI (vr tx q (dgt tx q)) else nI lo, g') ∧ frN g g' ∧ cLx tx (q + dgt tx q) g' ∧ g' 70 5 = nI q ∧ g' 70 6 = nI (ffl F P (nF tx q lo hi) q).1 ∧ g' 70 7 = (ffl F P (nF tx q lo hi) q).2 := by
    intro x n h1 h2 h3
    obtain ⟨g2, z1, z2, z3, z4, z5⟩ := failC hF b6 b7 (n := n) (q := q) ⟨h1, h2⟩
    rw [z1, bd_s]
    have fr2 : frN g g2 := ⟨fun r hr => (z4 r hr).trans (bf.1 r hr), fun f hf => (z5 f (ne_of_nm hf (by decide)) (ne_of_nm hf (by decide))).trans (bf.2 f hf)⟩
    refine j127 x n g2 fr2 (cLx_of h fr2 ((z5 3 (by decide) (by decide)).trans b3) dl) ((z5 5 (by decide) (by decide)).trans b5) z2 z3 h2 h3 (fun z => ?_)
    exfalso
    unfold ffl at z
    by_cases c : F = 0
    · rw [if_pos c, if_neg (by omega)] at z
      have z : n = 0 := z
      omega
    · rw [if_neg c] at z
      exact c z
  unfold K_Reader_readNumber_J74 K_Reader_readNumber_J118
  rw [b3, b5, nI_sub (by omega), show q + dgt tx q - q = dgt tx q by omega, nm_s]
  have vm := vb (min (dgt tx q) 3)
  by_cases c0 : dgt tx q = 0
  · rw [if_pos (show nI (dgt tx q) = 0 by rw [c0]; rfl), show q + dgt tx q = q by omega]
    have := bad (nI (vr tx q (min (dgt tx q) 3))) 1 (by omega) (by omega) (by unfold nF; rw [if_pos c0])
    rw [show q + dgt tx q = q by omega] at this
    exact this
  · rw [if_neg (show ¬ nI (dgt tx q) = 0 from fun z => c0 ((nI_eq_iff (b := 0) (by omega) (by omega)).mp z))]
    by_cases c3 : 3 < dgt tx q
    · rw [if_pos (show (3 : Int32) < nI (dgt tx q) from (nI_lt_iff (a := 3) (by omega) (by omega)).mpr c3)]
      exact bad _ 2 (by omega) (by omega) (by unfold nF; rw [if_neg c0, if_pos c3])
    · rw [if_neg (show ¬ (3 : Int32) < nI (dgt tx q) from fun z => c3 ((nI_lt_iff (a := 3) (by omega) (by omega)).mp z)), show min (dgt tx q) 3 = dgt tx q by omega]
      have vm := vb (dgt tx q)
      by_cases c4 : vr tx q (dgt tx q) < lo
      · rw [if_pos ((nI_lt_iff (by omega) (by omega)).mpr c4)]
        exact bad _ 2 (by omega) (by omega) (by unfold nF; rw [if_neg c0, if_neg c3, if_neg (by omega)])
      · rw [if_neg (fun z => c4 ((nI_lt_iff (by omega) (by omega)).mp z))]
        by_cases c5 : vr tx q (dgt tx q) ≤ hi
        · rw [if_pos ((nI_le_iff (by omega) (by omega)).mpr c5)]
          have n0 : nF tx q lo hi = 0 := by unfold nF; rw [if_neg c0, if_neg c3, if_pos ⟨by omega, c5⟩]
          refine j127 _ 0 g1 bf bx b5 ?_ ?_ (by omega) n0.symm (fun _ => rfl)
          · rw [b6]
            unfold ffl
            by_cases c : F = 0
            · rw [if_pos c, if_pos rfl, c]
            · rw [if_neg c]
          · rw [b7]
            unfold ffl
            by_cases c : F = 0
            · rw [if_pos c, if_pos rfl]
            · rw [if_neg c]
        · rw [if_neg (fun z => c5 ((nI_le_iff (by omega) (by omega)).mp z))]
          exact bad _ 2 (by omega) (by omega) (by unfold nF; rw [if_neg c0, if_neg c3, if_neg (by omega)])
