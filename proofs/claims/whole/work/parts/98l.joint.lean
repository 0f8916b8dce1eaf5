/-! the reference's numbers, and both sides at once -/
theorem inN {a lo hi : Nat} (ha : a < 2147483648) (hl : lo < 2147483648) (hh : hi < 2147483648) : K_M_in (Int32.toInt64 (nI a)) (Int32.toInt64 (nI lo)) (Int32.toInt64 (nI hi)) = some (if lo ≤ a ∧ a ≤ hi then 1 else 0) := by
  rw [nI_iI, nI_iI, nI_iI, toI64 (by omega) (by omega), toI64 (by omega) (by omega), toI64 (by omega) (by omega), inK (by omega) (by omega) (by omega)]
  by_cases c : lo ≤ a ∧ a ≤ hi
  · rw [if_pos c, if_pos (by omega)]
  · rw [if_neg c, if_neg (by omega)]
theorem in48 {a : Nat} (ha : a < 2147483648) : K_M_in (Int32.toInt64 (nI a)) 48 57 = some (if 48 ≤ a ∧ a ≤ 57 then 1 else 0) := inN (lo := 48) (hi := 57) ha (by decide) (by decide)
theorem want1 {f : Hp} (h : f 100 10 = 0) (b c : Int32) : K_M_want 1 b c f = some (1, f) := by
  unfold K_M_want K_M_want_J21
  rw [if_neg (by decide), if_pos h]
theorem want0 {f : Hp} (h : f 100 10 = 0) {n : Nat} (hn : 1 ≤ n ∧ n ≤ 4) (c : Int32) : K_M_want 0 (nI n) c f = some (0, hset (hset f 100 10 (nI n)) 100 11 c) := by
  unfold K_M_want K_M_want_J21
  rw [if_pos rfl, if_pos h, nm_s, nm_s, if_neg (show ¬ (hset (hset f 100 10 (nI n)) 100 11 c) 100 10 = 0 from fun z => by
    rw [hset_at, upd_ne _ _ (by decide), hset_at, upd_at] at z
    have := (nI_eq_iff (b := 0) (by omega) (by omega)).mp z
    omega)]
def frM (f f' : Hp) : Prop := (∀ r, r ≠ 100 → f' r = f r) ∧ ∀ x, x ∉ ([8, 9, 10, 11] : List Nat) → f' 100 x = f 100 x
theorem frM_refl (f : Hp) : frM f f := ⟨fun _ _ => rfl, fun _ _ => rfl⟩
theorem frM_trans {f f' f2 : Hp} (a : frM f f') (b : frM f' f2) : frM f f2 := ⟨fun r hr => (b.1 r hr).trans (a.1 r hr), fun x hx => (b.2 x hx).trans (a.2 x hx)⟩
theorem frM_set {f f' : Hp} (a : frM f f') {x : Nat} (hx : x ∈ ([8, 9, 10, 11] : List Nat)) (v : Int32) : frM f (hset f' 100 x v) := ⟨fun r hr => (hset_ne _ _ _ hr).trans (a.1 r hr), fun y hy => by rw [hset_at, upd_ne _ _ (ne_of_nm hy hx)]; exact a.2 y hy⟩
theorem mLx_of {tx : List Nat} {p q : Nat} {f f' : Hp} (h : mLx tx p f) (e : frM f f') (e8 : f' 100 8 = nI q) (hq : q ≤ tx.length) : mLx tx q f' := ⟨by rw [e.2 7 (by decide)]; exact h.1, e8, hq, fun j hj => by rw [e.1 106 (by decide)]; exact h.2.2.2 j hj⟩
theorem frN_refl (f : Hp) : frN f f := ⟨fun _ _ => rfl, fun _ _ => rfl⟩
theorem frN_trans {f f' f2 : Hp} (a : frN f f') (b : frN f' f2) : frN f f2 := ⟨fun r hr => (b.1 r hr).trans (a.1 r hr), fun x hx => (b.2 x hx).trans (a.2 x hx)⟩
theorem frN_set {f f' : Hp} (a : frN f f') {x : Nat} (hx : x ∈ ([3, 5, 6, 7] : List Nat)) (v : Int32) : frN f (hset f' 70 x v) := ⟨fun r hr => (hset_ne _ _ _ hr).trans (a.1 r hr), fun y hy => by rw [hset_at, upd_ne _ _ (ne_of_nm hy hx)]; exact a.2 y hy⟩
theorem numM {tx : List Nat} (hX : okX tx) {p : Nat} {f : Hp} (h : mLx tx p f) (N : Nat) (hN : 200 < N) (h10 : f 100 10 = 0) {lo hi : Nat} (hlo : lo ≤ 1000) (hhi : hi ≤ 1000) : ∃ v f', K_M_takeNumber N (nI lo) (nI hi) f = some (v, f') ∧ frM f f' ∧ f' 100 10 = nI (nF tx (skp tx p) lo hi) ∧ f' 100 11 = (if nF tx (skp tx p) lo hi = 0 then f 100 11 else nI (skp tx p)) ∧ (nF tx (skp tx p) lo hi = 0 → v = nI (vr tx (skp tx p) (dgt tx (skp tx p))) ∧ mLx tx (skp tx p + dgt tx (skp tx p)) f' ∧ f' 100 9 = nI (skp tx p)) := by
  have n64 := hX.1
  have pl := h.2.2.1
  have sl := skp_le pl
  unfold K_M_takeNumber
  rw [if_pos (by rw [h10]; decide), hereM hX h N hN, bd2_s, show (hset f 100 8 (nI (skp tx p))) 100 8 = nI (skp tx p) by rw [hset_at, upd_at], nm_s]
  generalize skp tx p = q at sl ⊢
  have dl := dgt_le (tx := tx) (q := q) sl.2
  have vb := vr_b tx q (fun i => getD_256 hX _)
  have fr0 : frM f (hset (hset f 100 8 (nI q)) 100 9 (nI q)) := frM_set (frM_set (frM_refl f) (by decide) _) (by decide) _
  have a8 : (hset (hset f 100 8 (nI q)) 100 9 (nI q)) 100 8 = nI q := by rw [hset_at, upd_ne _ _ (by decide), hset_at, upd_at]
  have a9 : (hset (hset f 100 8 (nI q)) 100 9 (nI q)) 100 9 = nI q := by rw [hset_at, upd_at]
  have a10 : (hset (hset f 100 8 (nI q)) 100 9 (nI q)) 100 10 = 0 := by rw [hset_at, upd_ne _ _ (by decide), hset_at, upd_ne _ _ (by decide)]; exact h10
  have a11 : (hset (hset f 100 8 (nI q)) 100 9 (nI q)) 100 11 = f 100 11 := by rw [hset_at, upd_ne _ _ (by decide), hset_at, upd_ne _ _ (by decide)]
  generalize hset (hset f 100 8 (nI q)) 100 9 (nI q) = f1 at fr0 a8 a9 a10 a11 ⊢
  by_cases c0 : dgt tx q = 0
  · have e1 : K_M_in (Int32.toInt64 (chM tx q)) 48 57 = some 0 := by
      unfold chM
      by_cases c : q < tx.length
      · have e := dgt_e (tx := tx) (q := q) sl.2 (by omega)
        rw [c0, Nat.add_zero] at e
        rw [if_pos c, in48 (by have := okX_get hX c; omega), if_neg e]
      · rw [if_neg c]; decide
    have nf : nF tx q lo hi = 1 := by unfold nF; rw [if_pos c0]
    rw [e1, bd_s, a8, show (1 : Int32) = nI 1 from rfl, want0 a10 (by omega), bd2_s, if_pos rfl, nf]
    exact ⟨_, _, rfl, frM_set (frM_set fr0 (by decide) _) (by decide) _, by rw [hset_at, upd_ne _ _ (by decide), hset_at, upd_at], by rw [hset_at, upd_at, if_neg (by decide)], fun z => absurd z (by decide)⟩
  · have d0 := dgt_d (tx := tx) (q := q) (i := 0) (by omega)
    rw [Nat.add_zero] at d0
    have e1 : K_M_in (Int32.toInt64 (chM tx q)) 48 57 = some 1 := by
      unfold chM
      rw [if_pos (by omega), in48 (by omega), if_pos d0]
    rw [e1, bd_s, want1 a10, bd2_s, if_neg (by decide)]
    have frame : ∀ i, frM f (hset f1 100 8 (nI (q + i))) := fun i => frM_set fr0 (by decide) _
    have b8 : ∀ i, (hset f1 100 8 (nI (q + i))) 100 8 = nI (q + i) := fun i => by rw [hset_at, upd_at]
    have b9 : ∀ i, (hset f1 100 8 (nI (q + i))) 100 9 = nI q := fun i => by rw [hset_at, upd_ne _ _ (by decide)]; exact a9
    have b10 : ∀ i, (hset f1 100 8 (nI (q + i))) 100 10 = 0 := fun i => by rw [hset_at, upd_ne _ _ (by decide)]; exact a10
    have b11 : ∀ i, (hset f1 100 8 (nI (q + i))) 100 11 = f 100 11 := fun i => by rw [hset_at, upd_ne _ _ (by decide)]; exact a11
    have e0 : hset f1 100 8 (nI (q + 0)) = f1 := hset_id a8
    have l := loopN_for (fun z_ : Int32 × Hp => K_M_takeNumber_L50 N (nI lo) (nI hi) z_.1 z_.2) (fun i => (nI (vr tx q i), hset f1 100 8 (nI (q + i)))) (dgt tx q) (nI (vr tx q (dgt tx q)), hset f1 100 8 (nI (q + dgt tx q))) (fun i hi2 => by
      have b := mLx_of h (frame i) (b8 i) (by omega)
      have d := dgt_d hi2
      have vi := vb i
      show K_M_takeNumber_L50 N (nI lo) (nI hi) (nI (vr tx q i)) (hset f1 100 8 (nI (q + i))) = _
      unfold K_M_takeNumber_L50 K_M_takeNumber_J113
      rw [b.1, b8 i, if_neg (fun z => by have := (nI_le_iff (by omega) (by omega)).mp z; omega), gA_nI (by omega) (by omega), b.2.2.2 _ (by omega), in48 (by omega), bd_s, if_pos d, if_neg (show ¬ (1 : Int32) = 0 by decide), hset_hset, show nI (q + i) + 1 = nI (q + (i + 1)) from nI_add (q + i) 1, nm_s]
      by_cases c : vr tx q i ≤ 99999
      · have ev : vr tx q (i + 1) = 10 * vr tx q i + (tx.getD (q + i) 0 - 48) := by
          show (if vr tx q i ≤ 99999 then 10 * vr tx q i + (tx.getD (q + i) 0 - 48) else vr tx q i) = _
          rw [if_pos c]
        rw [if_pos (show nI (vr tx q i) ≤ (99999 : Int32) from (nI_le_iff (b := 99999) (by omega) (by omega)).mpr c), gA_nI (by omega) (by omega), nm_s, b.2.2.2 _ (by omega), ev, show (10 : Int32) = nI 10 from rfl, nI_mul, nI_add, show (48 : Int32) = nI 48 from rfl, nI_sub (by omega), show 10 * vr tx q i + tx.getD (q + i) 0 - 48 = 10 * vr tx q i + (tx.getD (q + i) 0 - 48) by omega]
      · have ev : vr tx q (i + 1) = vr tx q i := by
          show (if vr tx q i ≤ 99999 then 10 * vr tx q i + (tx.getD (q + i) 0 - 48) else vr tx q i) = _
          rw [if_neg c]
        rw [if_neg (show ¬ nI (vr tx q i) ≤ (99999 : Int32) from fun z => c ((nI_le_iff (b := 99999) (by omega) (by omega)).mp z)), ev]) (by
      have b := mLx_of h (frame (dgt tx q)) (b8 _) dl
      show K_M_takeNumber_L50 N (nI lo) (nI hi) (nI (vr tx q (dgt tx q))) (hset f1 100 8 (nI (q + dgt tx q))) = _
      unfold K_M_takeNumber_L50
      rw [b.1, b8]
      by_cases c : tx.length ≤ q + dgt tx q
      · rw [if_pos ((nI_le_iff (by omega) (by omega)).mpr c)]
      · have e := dgt_e sl.2 (by omega)
        rw [if_neg (fun z => c ((nI_le_iff (by omega) (by omega)).mp z)), gA_nI (by omega) (by omega), b.2.2.2 _ (by omega), in48 (by have := getD_256 hX (q + dgt tx q); omega), bd_s, if_neg e, if_pos rfl]) (N := N) (by omega)
    have l : loopN (fun z_ : Int32 × Hp => K_M_takeNumber_L50 N (nI lo) (nI hi) z_.1 z_.2) N (0, hset f1 100 8 (nI (q + 0))) = _ := l
    rw [e0] at l
    rw [l, bd_s]
    show ∃ v f', K_M_takeNumber_J128 N (nI lo) (nI hi) (nI (vr tx q (dgt tx q))) (hset f1 100 8 (nI (q + dgt tx q))) = _ ∧ _
    have c8 := b8 (dgt tx q)
    have c9 := b9 (dgt tx q)
    have c10 := b10 (dgt tx q)
    have c11 := b11 (dgt tx q)
    have bf := frame (dgt tx q)
    have bx := mLx_of h bf c8 dl
    generalize hset f1 100 8 (nI (q + dgt tx q)) = f2 at c8 c9 c10 c11 bf bx ⊢
    have vm := vb (dgt tx q)
    have bad : nF tx q lo hi = 2 → ∃ v f', K_M_takeNumber_J159 N (nI (vr tx q (dgt tx q))) f2 = some (v, f') ∧ frM f f' ∧ f' 100 10 = nI (nF tx q lo hi) ∧ f' 100 11 = (if nF tx q lo hi = 0 then f 100 11 else nI q) ∧ (nF tx q lo hi = 0 → v = nI (vr tx q (dgt tx q)) ∧ mLx tx (q + dgt tx q) f' ∧ f' 100 9 = nI q) := fun nf => by
      unfold K_M_takeNumber_J159 K_M_takeNumber_J160
      rw [c9, show (2 : Int32) = nI 2 from rfl, want0 c10 (by omega), bd2_s, nf]
      exact ⟨_, _, rfl, frM_set (frM_set bf (by decide) _) (by decide) _, by rw [hset_at, upd_ne _ _ (by decide), hset_at, upd_at], by rw [hset_at, upd_at, if_neg (by decide)], fun z => absurd z (by decide)⟩
    unfold K_M_takeNumber_J128
    rw [c8, c9, nI_sub (by omega), show q + dgt tx q - q = dgt tx q by omega]
    by_cases c3 : 3 < dgt tx q
    · rw [if_pos (show (4 : Int32) ≤ nI (dgt tx q) from (nI_le_iff (a := 4) (by omega) (by omega)).mpr c3)]
      exact bad (by unfold nF; rw [if_neg c0, if_pos c3])
    · rw [if_neg (show ¬ (4 : Int32) ≤ nI (dgt tx q) from fun z => c3 ((nI_le_iff (a := 4) (by omega) (by omega)).mp z)), inN (by omega) (by omega) (by omega), bd_s]
      by_cases c4 : lo ≤ vr tx q (dgt tx q) ∧ vr tx q (dgt tx q) ≤ hi
      · have nf : nF tx q lo hi = 0 := by unfold nF; rw [if_neg c0, if_neg c3, if_pos c4]
        rw [if_pos c4, if_neg (show ¬ (1 : Int32) = 0 by decide), nf]
        unfold K_M_takeNumber_J160
        rw [want1 c10, bd2_s]
        exact ⟨_, _, rfl, bf, c10, by rw [if_pos rfl]; exact c11, fun _ => ⟨rfl, bx, c9⟩⟩
      · rw [if_neg c4, if_pos rfl]
        exact bad (by unfold nF; rw [if_neg c0, if_neg c3, if_neg c4])
/-- the two readers side by side: F the first fault, at P -/
def JJ (tx : List Nat) (F : Nat) (P : Int32) (p : Nat) (g f : Hp) : Prop := F ≤ 4 ∧ cLx tx p g ∧ g 70 6 = nI F ∧ g 70 7 = P ∧ f 100 10 = nI F ∧ f 100 11 = P ∧ (F = 0 → mLx tx p f)
theorem nF_le (tx : List Nat) (q lo hi : Nat) : nF tx q lo hi ≤ 4 := by
  unfold nF
  split
  · decide
  · split
    · decide
    · split <;> decide
/-- where the last number began -/
def PLC (g f : Hp) : Prop := ∃ b, b ≤ 64 ∧ g 70 5 = nI b ∧ f 100 9 = nI b
theorem numJ {tx : List Nat} (hX : okX tx) {F : Nat} {P : Int32} {p : Nat} {g f : Hp} (h : JJ tx F P p g f) (N : Nat) (hN : 200 < N) {lo hi : Nat} (hlh : lo ≤ hi) (hhi : hi ≤ 1000) : ∃ w v' g' f' F' P' p', K_Reader_readNumber N (nI lo) (nI hi) g = some (nI w, g') ∧ K_M_takeNumber N (nI lo) (nI hi) f = some (v', f') ∧ JJ tx F' P' p' g' f' ∧ frN g g' ∧ frM f f' ∧ (lo ≤ w ∧ w ≤ hi) ∧ (F ≠ 0 → F' = F ∧ P' = P) ∧ (F' = 0 → F = 0 ∧ P' = P ∧ v' = nI w) ∧ (F' = 0 → PLC g' f') := by
  obtain ⟨h1, h2, h3, h4, h5, h6, h7⟩ := h
  obtain ⟨g', a1, a2, a3, a4, a5, a6⟩ := numC hX h2 N hN h1 h3 h4 (lo := lo) (hi := hi) (by omega) hhi
  have n64 := hX.1
  have sl := skp_le h2.2.2.1
  by_cases c : F = 0
  · subst c
    obtain ⟨v, f', b1, b2, b3, b4, b5⟩ := numM hX (h7 rfl) N hN h5 (lo := lo) (hi := hi) (by omega) hhi
    generalize en : nF tx (skp tx p) lo hi = n at a1 a5 a6 b3 b4 b5
    have nle : n ≤ 4 := by rw [← en]; exact nF_le _ _ _ _
    by_cases cn : n = 0
    · subst cn
      have e : ffl 0 P 0 (skp tx p) = (0, P) := rfl
      rw [e] at a1 a5 a6
      obtain ⟨d1, d2, d3⟩ := b5 rfl
      have rng : lo ≤ vr tx (skp tx p) (dgt tx (skp tx p)) ∧ vr tx (skp tx p) (dgt tx (skp tx p)) ≤ hi := by
        unfold nF at en
        by_cases c0 : dgt tx (skp tx p) = 0
        · rw [if_pos c0] at en; exact absurd en (by decide)
        · rw [if_neg c0] at en
          by_cases c3 : 3 < dgt tx (skp tx p)
          · rw [if_pos c3] at en; exact absurd en (by decide)
          · rw [if_neg c3] at en
            by_cases c4 : lo ≤ vr tx (skp tx p) (dgt tx (skp tx p)) ∧ vr tx (skp tx p) (dgt tx (skp tx p)) ≤ hi
            · exact c4
            · rw [if_neg c4] at en; exact absurd en (by decide)
      have b4 : f' 100 11 = f 100 11 := b4
      exact ⟨_, v, g', f', 0, P, _, a1, b1, ⟨Nat.zero_le _, a3, a5, a6, b3, b4.trans h6, fun _ => d2⟩, a2, b2, rng, fun z => absurd rfl z, fun _ => ⟨rfl, rfl, d1⟩, fun _ => ⟨_, by omega, a4, d3⟩⟩
    · have e : ffl 0 P n (skp tx p) = (n, nI (skp tx p)) := by unfold ffl; rw [if_pos rfl, if_neg cn]
      rw [e] at a1 a5 a6
      rw [if_neg cn] at b4
      have a1 : K_Reader_readNumber N (nI lo) (nI hi) g = some (if n = 0 then nI (vr tx (skp tx p) (dgt tx (skp tx p))) else nI lo, g') := a1
      rw [if_neg cn] at a1
      exact ⟨lo, v, g', f', n, nI (skp tx p), _, a1, b1, ⟨nle, a3, a5, a6, b3, b4, fun z => absurd z cn⟩, a2, b2, ⟨Nat.le_refl _, hlh⟩, fun z => absurd rfl z, fun z => absurd z cn, fun z => absurd z cn⟩
  · have e : ffl F P (nF tx (skp tx p) lo hi) (skp tx p) = (F, P) := by unfold ffl; rw [if_neg c]
    rw [e] at a1 a5 a6
    have a1 : K_Reader_readNumber N (nI lo) (nI hi) g = some (if F = 0 then nI (vr tx (skp tx p) (dgt tx (skp tx p))) else nI lo, g') := a1
    rw [if_neg c] at a1
    have b1 : K_M_takeNumber N (nI lo) (nI hi) f = some (0, f) := by
      unfold K_M_takeNumber
      rw [h5, if_neg (show ¬ nI F ≤ 0 from fun z => by have := (nI_le_iff (b := 0) (by omega) (by omega)).mp z; omega)]
    exact ⟨lo, 0, g', f, F, P, _, a1, b1, ⟨h1, a3, a5, a6, h5, h6, fun z => absurd z c⟩, a2, frM_refl f, ⟨Nat.le_refl _, hlh⟩, fun _ => ⟨rfl, rfl⟩, fun z => absurd z c, fun z => absurd z c⟩
