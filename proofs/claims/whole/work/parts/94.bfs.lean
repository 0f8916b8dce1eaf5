/-! the search, layer by layer -/
/-- the pairs of a kind in their order -/
def prK (kind j : Nat) : Nat := if kind = 10 then 3 + 4 * j else j
def cnK (kind : Nat) : Nat := if kind = 10 then 4 else 16
theorem prK_in {kind j : Nat} (h : j < cnK kind) : prK kind j ∈ prs kind ∧ prK kind j < 16 := by
  have : prK kind j < 16 ∧ fbK kind ≤ prK kind j % 4 := by
    unfold prK fbK
    unfold cnK at h
    by_cases c : kind = 10
    · rw [if_pos c] at h ⊢; rw [if_pos c]; omega
    · rw [if_neg c] at h ⊢; rw [if_neg c]; omega
  exact ⟨prs_iff.mpr this, this.1⟩
theorem prK_all {kind p : Nat} (h : p ∈ prs kind) : ∃ j, j < cnK kind ∧ prK kind j = p := by
  have h := prs_iff.mp h
  unfold fbK at h
  by_cases c : kind = 10
  · rw [if_pos c] at h
    exact ⟨p / 4, by unfold cnK; rw [if_pos c]; omega, by unfold prK; rw [if_pos c]; omega⟩
  · exact ⟨p, by unfold cnK; rw [if_neg c]; exact h.1, by unfold prK; rw [if_neg c]⟩
theorem find_prs (kind : Nat) (P : Nat → Bool) (h : fs (fun j => P (prK kind j)) (cnK kind) < cnK kind) : ((prs kind).find? P).getD 0 = prK kind (fs (fun j => P (prK kind j)) (cnK kind)) := by
  by_cases c : kind = 10
  · subst c
    have e : fs (fun j => P (prK 10 j)) (cnK 10) = fs (fun j => P (3 + 4 * j)) 4 := rfl
    rw [e] at h ⊢
    show (([3, 7, 11, 15] : List Nat).find? P).getD 0 = 3 + 4 * fs (fun j => P (3 + 4 * j)) 4
    have g : fs (fun j => P (3 + 4 * j)) 4 = (if P 3 = true then 0 else if P 7 = true then 1 else if P 11 = true then 2 else if P 15 = true then 3 else 4) := rfl
    rw [g] at h ⊢
    cases h3 : P 3
    · cases h7 : P 7
      · cases h11 : P 11
        · cases h15 : P 15
          · rw [h3, h7, h11, h15] at h; exact absurd h (by decide)
          · simp [List.find?, h3, h7, h11, h15]
        · simp [List.find?, h3, h7, h11]
      · simp [List.find?, h3, h7]
    · simp [List.find?, h3]
  · have e : (fun j => P (prK kind j)) = P := by funext j; unfold prK; rw [if_neg c]
    have e2 : cnK kind = 16 := by unfold cnK; rw [if_neg c]
    have e3 : prs kind = List.range 16 := by unfold prs; rw [if_neg c]
    rw [e, e2] at h ⊢
    have := find16 P
    rw [if_pos h] at this
    rw [e3, this]
    unfold prK
    rw [if_neg c]
/-- the first pair's place -/
def fj (ρ : Rv) (kind n m : Nat) : Nat := fs (fun j => rch ρ kind n (aft ρ (knd kind) m (prK kind j))) (cnK kind)
theorem fj_ok {ρ : Rv} {kind n m : Nat} (h : rch ρ kind (n + 1) m = true) : fj ρ kind n m < cnK kind ∧ nxp ρ kind n m = prK kind (fj ρ kind n m) ∧ rch ρ kind n (aft ρ (knd kind) m (nxp ρ kind n m)) = true ∧ ∀ j, j < fj ρ kind n m → rch ρ kind n (aft ρ (knd kind) m (prK kind j)) = false := by
  obtain ⟨p, h1, h2⟩ := rch_s.mp h
  obtain ⟨j, h3, h4⟩ := prK_all h1
  have hl : fj ρ kind n m < cnK kind := by
    by_cases c : fj ρ kind n m < cnK kind
    · exact c
    · have := fs_lt (fun j => rch ρ kind n (aft ρ (knd kind) m (prK kind j))) (e := cnK kind) (j := j) (by unfold fj at c; omega)
      have this : rch ρ kind n (aft ρ (knd kind) m (prK kind j)) = false := this
      rw [h4, h2] at this
      exact absurd this (by decide)
  have e : nxp ρ kind n m = prK kind (fj ρ kind n m) := find_prs kind (fun p => rch ρ kind n (aft ρ (knd kind) m p)) hl
  refine ⟨hl, e, ?_, fun j hj => fs_lt (fun j => rch ρ kind n (aft ρ (knd kind) m (prK kind j))) hj⟩
  rw [e]
  exact fs_at (fun j => rch ρ kind n (aft ρ (knd kind) m (prK kind j))) hl
/-- the way -/
def pmN (ρ : Rv) (kind n m : Nat) : Nat → Nat
  | 0 => m
  | i + 1 => aft ρ (knd kind) (pmN ρ kind n m i) (nxp ρ kind (n - i - 1) (pmN ρ kind n m i))
theorem pmN_shift (ρ : Rv) (kind n m : Nat) : ∀ i, pmN ρ kind (n + 1) m (i + 1) = pmN ρ kind n (aft ρ (knd kind) m (nxp ρ kind n m)) i
  | 0 => rfl
  | i + 1 => by
    show aft ρ (knd kind) (pmN ρ kind (n + 1) m (i + 1)) (nxp ρ kind (n + 1 - (i + 1) - 1) (pmN ρ kind (n + 1) m (i + 1))) = aft ρ (knd kind) (pmN ρ kind n (aft ρ (knd kind) m (nxp ρ kind n m)) i) (nxp ρ kind (n - i - 1) (pmN ρ kind n (aft ρ (knd kind) m (nxp ρ kind n m)) i))
    rw [pmN_shift ρ kind n m i, show n + 1 - (i + 1) - 1 = n - i - 1 by omega]
theorem pth_get (ρ : Rv) (kind : Nat) : ∀ (n i m : Nat), i < n → (pth ρ kind n m).getD i 0 = nxp ρ kind (n - i - 1) (pmN ρ kind n m i)
  | 0, i, m, h => absurd h (Nat.not_lt_zero _)
  | n + 1, 0, m, h => rfl
  | n + 1, i + 1, m, h => by
    rw [pmN_shift, show n + 1 - (i + 1) - 1 = n - i - 1 by omega]
    exact pth_get ρ kind n i _ (by omega)
theorem pmN_rch {ρ : Rv} {kind n m : Nat} (h : rch ρ kind n m = true) : ∀ i, i ≤ n → rch ρ kind (n - i) (pmN ρ kind n m i) = true
  | 0, _ => h
  | i + 1, hi => by
    have ih := pmN_rch h i (by omega)
    rw [show n - i = (n - (i + 1)) + 1 by omega] at ih
    have := (fj_ok ih).2.2.1
    show rch ρ kind (n - (i + 1)) (aft ρ (knd kind) (pmN ρ kind n m i) (nxp ρ kind (n - i - 1) (pmN ρ kind n m i))) = true
    rw [show n - i - 1 = n - (i + 1) by omega]
    exact this
theorem pmN_ok {ρ : Rv} (hW : WF ρ) {kind n m : Nat} (h : okM ρ m) : ∀ i, okM ρ (pmN ρ kind n m i)
  | 0 => h
  | i + 1 => aft_ok hW (pmN_ok hW h i)
/-- reached in i strokes -/
def inS (ρ : Rv) (kind m0 i x : Nat) : Prop := ∀ k, rch ρ kind k x = true → rch ρ kind (i + k) m0 = true
theorem inS_step {ρ : Rv} {kind m0 i x p : Nat} (h : inS ρ kind m0 i x) (hp : p ∈ prs kind) : inS ρ kind m0 (i + 1) (aft ρ (knd kind) x p) := by
  intro k hk
  have := h (k + 1) (rch_s.mpr ⟨p, hp, hk⟩)
  rw [show i + 1 + k = i + (k + 1) by omega]
  exact this
/-- the queue -/
def BQ (ρ : Rv) (g : Hp) (Q : Nat) (qu : Nat → Nat) : Prop := g 40 3 = nI Q ∧ Q ≤ 3456 ∧ (∀ j, j < Q → g 42 j = nI (qu j) ∧ okM ρ (qu j)) ∧ (∀ i j, i < j → j < Q → qu i ≠ qu j) ∧ ∀ x, x < 3456 → (g 41 x ≠ -1 ↔ ∃ j, j < Q ∧ qu j = x)
theorem BQ_of {ρ : Rv} {g g' : Hp} {Q : Nat} {qu : Nat → Nat} (e0 : g' 40 3 = g 40 3) (e1 : g' 41 = g 41) (e2 : g' 42 = g 42) (H : BQ ρ g Q qu) : BQ ρ g' Q qu := by unfold BQ at H ⊢; rw [e0, e1, e2]; exact H
theorem reachK {ρ : Rv} (hW : WF ρ) {g : Hp} {Q : Nat} {qu : Nat → Nat} (H : BQ ρ g Q qu) {x B : Nat} (hx : okM ρ x) (hB : B < 2147483648) :
    ((∃ j, j < Q ∧ qu j = x) ∧ K_Search_reach (nI x) (nI B) g = some (0, g)) ∨ (g 41 x = -1 ∧ ∃ g', K_Search_reach (nI x) (nI B) g = some (1, g') ∧ BQ ρ g' (Q + 1) (fun j => if j = Q then x else qu j) ∧ g' 41 = upd (g 41) x (nI B) ∧ (∀ r, r ∉ ([40, 41, 42] : List Nat) → g' r = g r) ∧ ∀ f, f ≠ 3 → g' 40 f = g 40 f) := by
  obtain ⟨h1, h2, h3, h4, h5⟩ := H
  have xl := okM_lt hW hx
  unfold K_Search_reach
  rw [if_neg (nI_not_neg (by omega)), if_neg (fun q => by have := (nI_le_iff (a := 3456) (by omega) (by omega)).mp q; omega), gA_nI (by omega) (by omega)]
  by_cases c : g 41 x = -1
  · right
    have hno : ¬ ∃ j, j < Q ∧ qu j = x := fun q => (h5 x xl).mpr q c
    have hQ : Q < 3456 := by
      by_cases d : Q < 3456
      · exact d
      · exfalso
        have e : Q = 3456 := by omega
        obtain ⟨i, j, p1, p2, p3⟩ := pigeon 3456 (fun i => if i < 3456 then qu i else x) (fun i _ => by
          show (if i < 3456 then qu i else x) < 3456
          split
          · exact okM_lt hW (h3 i (by omega)).2
          · exact xl)
        have p3 : (if i < 3456 then qu i else x) = (if j < 3456 then qu j else x) := p3
        rw [if_pos (by omega)] at p3
        by_cases f : j < 3456
        · rw [if_pos f] at p3
          exact h4 i j p1 (by omega) p3
        · rw [if_neg f] at p3
          exact hno ⟨i, by omega, p3⟩
    refine ⟨c, hset (hset (hset g 41 x (nI B)) 42 Q (nI x)) 40 3 (nI (Q + 1)), ?_, ⟨?_, by omega, fun j hj => ?_, fun i j hij hj => ?_, fun y hy => ?_⟩, ?_, fun r hr => ?_, fun f hf => ?_⟩
    · have e3 : (hset g 41 x (nI B)) 40 3 = nI Q := by rw [hset_ne _ _ _ (by decide)]; exact h1
      have e4 : (hset (hset g 41 x (nI B)) 42 Q (nI x)) 40 3 = nI Q := by rw [hset_ne _ _ _ (by decide)]; exact e3
      rw [if_pos c, h1, if_pos (show nI Q < (3456 : Int32) from (nI_lt_iff (b := 3456) (by omega) (by omega)).mpr hQ), sA_nI (by omega) (by omega), nI_cl (by omega), nm_s, e3, sA_nI (by omega) (by omega), nI_cl (by omega), nm_s, e4, show nI Q + 1 = nI (Q + 1) from nI_add Q 1, nm_s]
    · rw [hset_at, upd_at]
    · show _ = nI (if j = Q then x else qu j) ∧ okM ρ (if j = Q then x else qu j)
      rw [hset_ne _ _ _ (by decide), hset_at]
      by_cases d : j = Q
      · rw [if_pos d, d, upd_at]; exact ⟨rfl, hx⟩
      · rw [if_neg d, upd_ne _ _ d, hset_ne _ _ _ (by decide)]; exact h3 j (by omega)
    · show (if i = Q then x else qu i) ≠ (if j = Q then x else qu j)
      rw [if_neg (by omega)]
      by_cases d : j = Q
      · rw [if_pos d]; exact fun q => hno ⟨i, by omega, q⟩
      · rw [if_neg d]; exact h4 i j hij (by omega)
    · rw [hset_ne _ _ _ (by decide), hset_ne _ _ _ (by decide), hset_at]
      by_cases d : y = x
      · subst d
        rw [upd_at]
        refine ⟨fun _ => ⟨Q, by omega, if_pos rfl⟩, fun _ q => ?_⟩
        have := nI_not_neg hB
        rw [q] at this
        exact this (by decide)
      · rw [upd_ne _ _ d, h5 y hy]
        constructor
        · rintro ⟨j, q1, q2⟩
          exact ⟨j, by omega, by show (if j = Q then x else qu j) = y; rw [if_neg (by omega)]; exact q2⟩
        · rintro ⟨j, q1, q2⟩
          have q2 : (if j = Q then x else qu j) = y := q2
          by_cases f : j = Q
          · rw [if_pos f] at q2; exact absurd q2.symm d
          · rw [if_neg f] at q2; exact ⟨j, by omega, q2⟩
    · rw [hset_ne _ _ _ (by decide), hset_ne _ _ _ (by decide), hset_at]
    · rw [hset_ne _ _ _ (ne_of_nm hr (by decide)), hset_ne _ _ _ (ne_of_nm hr (by decide)), hset_ne _ _ _ (ne_of_nm hr (by decide))]
    · rw [hset_at, upd_ne _ _ hf, hset_ne _ _ _ (by decide), hset_ne _ _ _ (by decide)]
  · left
    exact ⟨(h5 x xl).mp c, by rw [if_neg c]⟩
/-- what the look leaves alone -/
def frS (key : Int32) (h g : Hp) : Prop := (∀ r, r ∉ ([40, 41, 42] : List Nat) → g r = h r) ∧ g 40 5 = -1 ∧ g 40 6 = key
/-- while the layer d is spread: F to U the layer ahead of it, at A, the pairs below J are done -/
def LI (ρ : Rv) (kind m0 : Nat) (key : Int32) (h : Hp) (d F U A J : Nat) (g : Hp) : Prop := ∃ (Q : Nat) (qu : Nat → Nat), BQ ρ g Q qu ∧ F ≤ U ∧ U ≤ Q ∧ frS key h g ∧ g 40 4 = -1 ∧
  (∀ j, j < U → ∃ i, i + 1 ≤ d ∧ inS ρ kind m0 i (qu j)) ∧ (∀ j, F ≤ j → j < U → inS ρ kind m0 (d - 1) (qu j)) ∧ (∀ j, U ≤ j → j < Q → inS ρ kind m0 d (qu j)) ∧
  (fD ρ kind m0 ≤ 60 → d ≤ fD ρ kind m0 ∧ (∀ i, i + 1 < d → g 41 (pmN ρ kind (fD ρ kind m0) m0 (i + 1)) = nI (16 * pmN ρ kind (fD ρ kind m0) m0 i + nxp ρ kind (fD ρ kind m0 - i - 1) (pmN ρ kind (fD ρ kind m0) m0 i))) ∧
    ∃ q, F ≤ q ∧ q < U ∧ qu q = pmN ρ kind (fD ρ kind m0) m0 (d - 1) ∧ (∀ j, F ≤ j → j < q → rch ρ kind (fD ρ kind m0 - d + 1) (qu j) = false) ∧
      ((A < q ∨ (A = q ∧ J ≤ fj ρ kind (fD ρ kind m0 - d) (qu q))) → ∀ j, U ≤ j → j < Q → rch ρ kind (fD ρ kind m0 - d) (qu j) = false) ∧
      ((q < A ∨ (A = q ∧ fj ρ kind (fD ρ kind m0 - d) (qu q) < J)) → d < fD ρ kind m0 ∧ ∃ q', U ≤ q' ∧ q' < Q ∧ qu q' = pmN ρ kind (fD ρ kind m0) m0 d ∧ (∀ j, U ≤ j → j < q' → rch ρ kind (fD ρ kind m0 - d) (qu j) = false) ∧ g 41 (pmN ρ kind (fD ρ kind m0) m0 d) = nI (16 * pmN ρ kind (fD ρ kind m0) m0 (d - 1) + nxp ρ kind (fD ρ kind m0 - d) (pmN ρ kind (fD ρ kind m0) m0 (d - 1)))))
/-- found -/
def FI (ρ : Rv) (kind m0 : Nat) (key : Int32) (h : Hp) (d : Nat) (g : Hp) : Prop := fD ρ kind m0 ≤ 60 ∧ d = fD ρ kind m0 ∧ frS key h g ∧ g 40 4 = nI (pmN ρ kind (fD ρ kind m0) m0 (fD ρ kind m0)) ∧ ∀ i, i < d → g 41 (pmN ρ kind (fD ρ kind m0) m0 (i + 1)) = nI (16 * pmN ρ kind (fD ρ kind m0) m0 i + nxp ρ kind (fD ρ kind m0 - i - 1) (pmN ρ kind (fD ρ kind m0) m0 i))
theorem prK_step {kind J : Nat} (hk : kind ≤ 10) : nI (prK kind J) + (if (1 : Int32) < nI (if kind = 10 then 4 else 1) then nI (if kind = 10 then 4 else 1) else 1) = nI (prK kind (J + 1)) := by
  unfold prK
  by_cases c : kind = 10
  · rw [if_pos c, if_pos c, if_pos c, if_pos (show (1 : Int32) < nI 4 by decide), nI_add]
    congr 1
  · rw [if_neg c, if_neg c, if_neg c, if_neg (show ¬ (1 : Int32) < nI 1 by decide)]
    exact nI_add J 1
