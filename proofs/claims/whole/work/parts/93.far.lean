/-! how far: the theory, the reference's table -/
theorem any_mem {α : Type} {l : List α} {P : α → Bool} : l.any P = true ↔ ∃ p, p ∈ l ∧ P p = true := by
  rw [List.any_eq_true]
def fbK (kind : Nat) : Nat := if kind = 10 then 3 else 0
theorem prs_iff {kind p : Nat} : p ∈ prs kind ↔ p < 16 ∧ fbK kind ≤ p % 4 := by
  unfold prs fbK
  by_cases c : kind = 10
  · rw [if_pos c, if_pos c]
    constructor
    · intro h
      have : ∀ q ∈ ([3, 7, 11, 15] : List Nat), q < 16 ∧ 3 ≤ q % 4 := by decide
      exact this p h
    · rintro ⟨h1, h2⟩
      have : ∀ q, q < 16 → 3 ≤ q % 4 → q ∈ ([3, 7, 11, 15] : List Nat) := by decide
      exact this p h1 h2
  · rw [if_neg c, if_neg c, List.mem_range]
    omega
theorem rch_s {ρ : Rv} {kind n m : Nat} : rch ρ kind (n + 1) m = true ↔ ∃ p, p ∈ prs kind ∧ rch ρ kind n (aft ρ (knd kind) m p) = true := any_mem
theorem rch_no {ρ : Rv} (h : rG ρ = 0) (kind : Nat) : ∀ n m, rch ρ kind n m = false := by
  intro n
  induction n with
  | zero =>
    intro u
    show isG ρ (u % 384) = false
    unfold isG
    rw [decide_eq_false (show ¬ rG ρ ≠ 0 from fun z => z h)]
    rfl
  | succ n ih =>
    intro u
    refine Bool.eq_false_iff.mpr (fun z => ?_)
    obtain ⟨p, -, q⟩ := rch_s.mp z
    rw [ih] at q
    exact absurd q (by decide)
/-- the fewest strokes; 61: not within 60 -/
def fD (ρ : Rv) (kind m : Nat) : Nat := fs (fun j => rch ρ kind j m) 61
theorem fD_b (ρ : Rv) (kind m : Nat) : fD ρ kind m ≤ 61 := fs_le _ _
theorem fD_at {ρ : Rv} {kind m : Nat} (h : fD ρ kind m < 61) : rch ρ kind (fD ρ kind m) m = true := fs_at (fun j => rch ρ kind j m) h
theorem fD_lt {ρ : Rv} {kind m j : Nat} (h : j < fD ρ kind m) : rch ρ kind j m = false := fs_lt (fun j => rch ρ kind j m) h
theorem fD_of {ρ : Rv} {kind m j : Nat} (hj : j ≤ 60) (h : rch ρ kind j m = true) : fD ρ kind m ≤ j := by
  by_cases c : fD ρ kind m ≤ j
  · exact c
  · have := fD_lt (ρ := ρ) (kind := kind) (m := m) (j := j) (by omega)
    rw [h] at this
    exact absurd this (by decide)
theorem fD_0 {ρ : Rv} {kind m : Nat} : fD ρ kind m = 0 ↔ isG ρ (m % 384) = true := by
  constructor
  · intro h
    have := fD_at (ρ := ρ) (kind := kind) (m := m) (by omega)
    rw [h] at this
    exact this
  · intro h
    have := fD_of (ρ := ρ) (kind := kind) (m := m) (j := 0) (by omega) h
    omega
theorem fD_ge {ρ : Rv} {kind n m p : Nat} (hp : p ∈ prs kind) (hn : n < 60) (h : n < fD ρ kind m) : n ≤ fD ρ kind (aft ρ (knd kind) m p) := by
  by_cases c : n ≤ fD ρ kind (aft ρ (knd kind) m p)
  · exact c
  · exfalso
    have a := fD_at (ρ := ρ) (kind := kind) (m := aft ρ (knd kind) m p) (by omega)
    have := fD_of (j := fD ρ kind (aft ρ (knd kind) m p) + 1) (by omega) (rch_s.mpr ⟨p, hp, a⟩)
    omega
theorem fD_step {ρ : Rv} {kind n m : Nat} (hn : n < 60) (h : n < fD ρ kind m) : fD ρ kind m = n + 1 ↔ ∃ p, p ∈ prs kind ∧ fD ρ kind (aft ρ (knd kind) m p) = n := by
  constructor
  · intro e
    have a := fD_at (ρ := ρ) (kind := kind) (m := m) (by omega)
    rw [e] at a
    obtain ⟨p, h1, h2⟩ := rch_s.mp a
    have b := fD_of (j := n) (by omega) h2
    have c := fD_ge h1 hn h
    exact ⟨p, h1, by omega⟩
  · rintro ⟨p, h1, h2⟩
    have a := fD_at (ρ := ρ) (kind := kind) (m := aft ρ (knd kind) m p) (by omega)
    rw [h2] at a
    have := fD_of (j := n + 1) (by omega) (rch_s.mpr ⟨p, h1, a⟩)
    omega
theorem fD_rch {ρ : Rv} {kind n m p : Nat} (hp : p ∈ prs kind) (hn : n < 60) (h : n < fD ρ kind m) : rch ρ kind n (aft ρ (knd kind) m p) = true ↔ fD ρ kind (aft ρ (knd kind) m p) = n := by
  constructor
  · intro q
    have := fD_of (j := n) (by omega) q
    have := fD_ge hp hn h
    omega
  · intro e
    have a := fD_at (ρ := ρ) (kind := kind) (m := aft ρ (knd kind) m p) (by omega)
    rw [e] at a
    exact a
theorem fD_stop {ρ : Rv} (hW : WF ρ) {kind n : Nat} (hn : 1 ≤ n ∧ n ≤ 60) (h : ∀ m, okM ρ m → fD ρ kind m ≠ n) : ∀ m, okM ρ m → fD ρ kind m < n ∨ fD ρ kind m = 61 := by
  have key : ∀ d m, okM ρ m → n + d ≤ 60 → fD ρ kind m ≠ n + d := by
    intro d
    induction d with
    | zero => intro m hm _; exact h m hm
    | succ d ih =>
      intro m hm hl e
      obtain ⟨p, h1, h2⟩ := (fD_step (ρ := ρ) (kind := kind) (n := n + d) (m := m) (by omega) (by omega)).mp (by omega)
      exact ih _ (aft_ok hW hm) (by omega) h2
  intro m hm
  have b := fD_b ρ kind m
  have := key (fD ρ kind m - n) m hm
  omega
/-- what the reference keeps while it looks, with a third one's strength kn and the behind one's first stroke fb -/
def FB (kn fb : Nat) (h g : Hp) : Prop := (∀ r ∈ ([101, 102, 103, 104, 105, 106, 107, 112, 114, 115] : List Nat), g r = h r) ∧ (∀ f ∈ ([7, 11, 16, 26, 32] : List Nat), g 100 f = h 100 f) ∧ g 100 12 = nI kn ∧ g 100 18 = 3 ∧ g 100 19 = nI fb
theorem FB_RM {ρ : Rv} {kn fb : Nat} {h g : Hp} (e : FB kn fb h g) (H : RM ρ h) : RM ρ g := RM_of (e.1 _ (by decide)) (e.1 _ (by decide)) (e.1 _ (by decide)) H
theorem FB_nx {kn fb : Nat} {h g : Hp} (e : FB kn fb h g) (d c : Nat) : FB kn fb h (nx g d c) := by
  refine ⟨fun r hr => (nx_ne _ _ _ (fun z => ?_)).trans (e.1 r hr), fun f hf => (nx_f _ _ _ (fun z => ?_) (fun z => ?_)).trans (e.2.1 f hf), ?_, ?_, ?_⟩
  · subst z; revert hr; decide
  · subst z; revert hf; decide
  · subst z; revert hf; decide
  · rw [nx_f _ _ _ (by decide) (by decide)]; exact e.2.2.1
  · rw [nx_f _ _ _ (by decide) (by decide)]; exact e.2.2.2.1
  · rw [nx_f _ _ _ (by decide) (by decide)]; exact e.2.2.2.2
theorem FB_108 {kn fb : Nat} {h g : Hp} (e : FB kn fb h g) (k : Nat) (v : Int32) : FB kn fb h (hset g 108 k v) := by
  refine ⟨fun r hr => (hset_ne _ _ _ (fun z => ?_)).trans (e.1 r hr), fun f hf => ?_, ?_, ?_, ?_⟩
  · subst z; revert hr; decide
  · rw [hset_ne _ _ _ (by decide)]; exact e.2.1 f hf
  · rw [hset_ne _ _ _ (by decide)]; exact e.2.2.1
  · rw [hset_ne _ _ _ (by decide)]; exact e.2.2.2.1
  · rw [hset_ne _ _ _ (by decide)]; exact e.2.2.2.2
def fT (ρ : Rv) (kind n b : Nat) (g : Hp) : Prop := ∀ m, okM ρ m → g 108 (eM ρ m) = nI (if fD ρ kind m < n ∨ (fD ρ kind m = n ∧ eM ρ m < b) then fD ρ kind m else 99999999)
def fV (ρ : Rv) (kind n b m : Nat) : Nat := if fD ρ kind m < n ∨ (fD ρ kind m = n ∧ eM ρ m < b) then fD ρ kind m else 99999999
theorem fV_b (ρ : Rv) (kind n b m : Nat) : fV ρ kind n b m ≤ 99999999 ∧ fD ρ kind m ≤ fV ρ kind n b m := by
  have := fD_b ρ kind m
  unfold fV
  split <;> omega
theorem fV_eq {ρ : Rv} {kind n b m j : Nat} (hj : j < n) (hn : n ≤ 61) : fV ρ kind n b m = j ↔ fD ρ kind m = j := by
  have := fD_b ρ kind m
  unfold fV
  split <;> omega
theorem fT_of {ρ : Rv} {kind n b : Nat} {h h' : Hp} (e : h' 108 = h 108) (H : fT ρ kind n b h) : fT ρ kind n b h' := by unfold fT at H ⊢; rw [e]; exact H
theorem knd_b {kind : Nat} (h : kind ≤ 10) : knd kind ≤ 9 := by unfold knd; split <;> omega
theorem stepF {ρ : Rv} {h g : Hp} (hW : WF ρ) (N : Nat) (hN : 200 < N) (hR : RM ρ h) {kind fb : Nat} (hk : kind ≤ 10) (e : FB (knd kind) fb h g) {m p : Nat} (hm : okM ρ m) (hp : p < 16) : ∃ g', K_M_after N (nI (eM ρ m)) (nI (p / 4)) (nI (p % 4)) g = some (nI (eM ρ (aft ρ (knd kind) m p)), g') ∧ FB (knd kind) fb h g' ∧ ∀ r, r ≠ 100 → g' r = g r :=
  ⟨_, afterM hW N (by omega) (FB_RM e hR) (kn := knd kind) (knd_b hk) e.2.2.1 hm.1 (okS_in hW hm.2) hp, FB_nx e _ _, fun _ hr => nx_ne _ _ _ hr⟩
/-- the least of all that comes next -/
def exL (ρ : Rv) (kind n b m v : Nat) : Prop := v = 99999999 ∨ ∃ p, p ∈ prs kind ∧ v = fV ρ kind n b (aft ρ (knd kind) m p)
def isL (ρ : Rv) (kind n b m v : Nat) (Q : Nat → Prop) : Prop := v ≤ 99999999 ∧ (∀ p, p ∈ prs kind → Q p → v ≤ fV ρ kind n b (aft ρ (knd kind) m p)) ∧ exL ρ kind n b m v
theorem leastAfterM {ρ : Rv} {h g : Hp} (hW : WF ρ) (N : Nat) (hN : 200 < N) (hR : RM ρ h) {kind : Nat} (hk : kind ≤ 10) (hF : FB (knd kind) (fbK kind) h g) {m n b : Nat} (hm : okM ρ m) (hT : fT ρ kind n b g) : ∃ v g', K_M_leastAfter N (nI (eM ρ m)) g = some (nI v, g') ∧ FB (knd kind) (fbK kind) h g' ∧ g' 108 = g 108 ∧ isL ρ kind n b m v (fun _ => True) := by
  have fbl : fbK kind ≤ 3 := by unfold fbK; split <;> omega
  have em := (eM_q hW hm).2
  obtain ⟨t, l1, v, g', e, f1, f2, f3⟩ := loopN_fx (fun z_ : Int32 × Int32 × Hp => K_M_leastAfter_L5 N (nI (eM ρ m)) z_.1 z_.2.1 z_.2.2) (fun x s => ∃ v g', s = (nI v, nI x, g') ∧ FB (knd kind) (fbK kind) h g' ∧ g' 108 = g 108 ∧ isL ρ kind n b m v (fun p => p / 4 < x)) 4 (fun t => ∃ v g', t = (nI v, g') ∧ FB (knd kind) (fbK kind) h g' ∧ g' 108 = g 108 ∧ isL ρ kind n b m v (fun _ => True)) (fun x s hx hJ => by
      obtain ⟨v, g1, e, f1, f2, f3⟩ := hJ
      subst e
      obtain ⟨t2, l2, v2, g2, e2, f4, f5, f6⟩ := loopN_fx (fun z_ : Int32 × Int32 × Hp => K_M_leastAfter_L19 N (nI (eM ρ m)) z_.1 (nI x) z_.2.1 z_.2.2) (fun y s => ∃ v g', s = (nI v, nI (fbK kind + y), g') ∧ FB (knd kind) (fbK kind) h g' ∧ g' 108 = g 108 ∧ isL ρ kind n b m v (fun p => p / 4 < x ∨ (p / 4 = x ∧ p % 4 < fbK kind + y))) (4 - fbK kind) (fun t => ∃ v g', t = (nI v, g') ∧ FB (knd kind) (fbK kind) h g' ∧ g' 108 = g 108 ∧ isL ρ kind n b m v (fun p => p / 4 < x + 1)) (fun y s hy hJ => by
          obtain ⟨v, g1, e, f1, f2, f3, f4, f5⟩ := hJ
          subst e
          have hp : 4 * x + (fbK kind + y) < 16 := by omega
          have hpr : 4 * x + (fbK kind + y) ∈ prs kind := prs_iff.mpr ⟨hp, by omega⟩
          obtain ⟨g2, z1, z2, z3⟩ := stepF hW N hN hR hk f1 hm hp
          rw [show (4 * x + (fbK kind + y)) / 4 = x by omega, show (4 * x + (fbK kind + y)) % 4 = fbK kind + y by omega] at z1
          have okn := aft_ok hW (kn := knd kind) (p := 4 * x + (fbK kind + y)) hm
          have eml := (eM_q hW okn).2
          have hv := fT_of (f2 ▸ z3 108 (by decide) : g2 108 = g 108) hT _ okn
          have vb := fV_b ρ kind n b (aft ρ (knd kind) m (4 * x + (fbK kind + y)))
          have k1 : nI v ≤ nI (fV ρ kind n b (aft ρ (knd kind) m (4 * x + (fbK kind + y)))) ↔ v ≤ fV ρ kind n b (aft ρ (knd kind) m (4 * x + (fbK kind + y))) := nI_le_iff (by omega) (by omega)
          show ∃ s', K_M_leastAfter_L19 N (nI (eM ρ m)) (nI v) (nI x) (nI (fbK kind + y)) g1 = some (.inl s') ∧ _
          unfold K_M_leastAfter_L19 K_M_leastAfter_J52
          rw [if_neg (fun q => by have := (nI_le_iff (a := 4) (by omega) (by omega)).mp q; omega), z1, bd2_s, gA_nI (by omega) (by omega), hv, show nI (fbK kind + y) + 1 = nI (fbK kind + (y + 1)) from nI_add _ 1, nm_s, nm_s]
          show ∃ s', (if nI v ≤ nI (fV ρ kind n b (aft ρ (knd kind) m (4 * x + (fbK kind + y)))) then some (.inl (nI v, nI (fbK kind + (y + 1)), g2)) else some (.inl (nI (fV ρ kind n b (aft ρ (knd kind) m (4 * x + (fbK kind + y)))), nI (fbK kind + (y + 1)), g2)) : Option ((Int32 × Int32 × Hp) ⊕ (Int32 × Hp))) = some (.inl s') ∧ _
          have split' : ∀ p, p ∈ prs kind → (p / 4 < x ∨ (p / 4 = x ∧ p % 4 < fbK kind + (y + 1))) → (p / 4 < x ∨ (p / 4 = x ∧ p % 4 < fbK kind + y)) ∨ p = 4 * x + (fbK kind + y) := fun p _ _ => by omega
          by_cases c : v ≤ fV ρ kind n b (aft ρ (knd kind) m (4 * x + (fbK kind + y)))
          · rw [if_pos (k1.mpr c)]
            refine ⟨_, rfl, v, g2, rfl, z2, (z3 108 (by decide)).trans f2, f3, fun p hp hq => ?_, f5⟩
            rcases split' p hp hq with q | q
            · exact f4 p hp q
            · rw [q]; exact c
          · rw [if_neg (fun q => c (k1.mp q))]
            refine ⟨_, rfl, _, g2, rfl, z2, (z3 108 (by decide)).trans f2, vb.1, fun p hp hq => ?_, .inr ⟨_, hpr, rfl⟩⟩
            rcases split' p hp hq with q | q
            · have := f4 p hp q; omega
            · rw [q]; exact Nat.le_refl _) (fun s hJ => by
          obtain ⟨v, g1, e, f1, f2, f3, f4, f5⟩ := hJ
          subst e
          refine ⟨(nI v, g1), ?_, v, g1, rfl, f1, f2, f3, fun p hp hq => f4 p hp (by omega), f5⟩
          show K_M_leastAfter_L19 N (nI (eM ρ m)) (nI v) (nI x) (nI (fbK kind + (4 - fbK kind))) g1 = _
          unfold K_M_leastAfter_L19
          rw [if_pos (show (4 : Int32) ≤ nI (fbK kind + (4 - fbK kind)) from (nI_le_iff (a := 4) (by omega) (by omega)).mpr (by omega))]) (s0 := (nI v, nI (fbK kind), g1)) ⟨v, g1, rfl, f1, f2, f3.1, fun p hp hq => f3.2.1 p hp (by
            have := prs_iff.mp hp
            omega), f3.2.2⟩ (N := N) (by omega)
      subst e2
      refine ⟨(nI v2, nI (x + 1), g2), ?_, v2, g2, rfl, f4, f5, f6⟩
      show K_M_leastAfter_L5 N (nI (eM ρ m)) (nI v) (nI x) g1 = _
      unfold K_M_leastAfter_L5
      rw [f1.2.2.2.1, if_neg (show ¬ (3 : Int32) < nI x from fun q => by have := (nI_lt_iff (a := 3) (by omega) (by omega)).mp q; omega), f1.2.2.2.2, nm_s, l2, bd_s, show nI x + 1 = nI (x + 1) from nI_add x 1, nm_s]) (fun s hJ => by
      obtain ⟨v, g1, e, f1, f2, f3, f4, f5⟩ := hJ
      subst e
      refine ⟨(nI v, g1), ?_, v, g1, rfl, f1, f2, f3, fun p hp _ => f4 p hp (by have := prs_iff.mp hp; omega), f5⟩
      show K_M_leastAfter_L5 N (nI (eM ρ m)) (nI v) (nI 4) g1 = _
      unfold K_M_leastAfter_L5
      rw [f1.2.2.2.1, if_pos (by decide)]) (s0 := (99999999, 0, g)) ⟨99999999, g, rfl, hF, rfl, Nat.le_refl _, fun p _ hq => absurd hq (Nat.not_lt_zero _), .inl rfl⟩ (N := N) (by omega)
  subst e
  refine ⟨v, g', ?_, f1, f2, f3⟩
  unfold K_M_leastAfter
  rw [l1, bd_s]
/-- the moment of a number of the reference's -/
def dE (ρ : Rv) (s : Nat) : Nat := 384 * (s % tmv ρ) + dH ρ (s / tmv ρ)
theorem dE_ok {ρ : Rv} (hW : WF ρ) (w : rW ρ ≠ 0) {s : Nat} (h : s < rW ρ * rH ρ * 8 * tmv ρ) : dE ρ s / 384 < tmv ρ ∧ inR ρ (dE ρ s % 384 / 8) ∧ eM ρ (dE ρ s) = s ∧ s / tmv ρ < 8 * (rW ρ * rH ρ) ∧ s / tmv ρ / 8 = cM ρ (dE ρ s % 384 / 8) ∧ s / tmv ρ % 8 = dE ρ s % 8 ∧ 8 * (dE ρ s % 384 / 8) + dE ρ s % 8 = dE ρ s % 384 := by
  have tb := tmv_b hW
  have q : s / tmv ρ < rW ρ * rH ρ * 8 := Nat.div_lt_of_lt_mul (by rw [Nat.mul_comm]; exact h)
  have r := Nat.mod_lt s (by omega : 0 < tmv ρ)
  have dm := Nat.div_add_mod s (tmv ρ)
  obtain ⟨d1, d2, d3⟩ := dH_ok hW w (s := s / tmv ρ) (by omega)
  have hl := hI_lt hW d1
  rw [d3] at hl
  have e1 : dE ρ s / 384 = s % tmv ρ := by unfold dE; omega
  have e2 : dE ρ s % 384 = dH ρ (s / tmv ρ) := by unfold dE; omega
  have e3 : dE ρ s % 8 = dH ρ (s / tmv ρ) % 8 := by unfold dE; omega
  refine ⟨by omega, by rw [e2]; exact d1, ?_, by omega, by rw [e2]; exact hl.2.2.1, by rw [e3]; exact hl.2.2.2, by rw [e2, e3]; omega⟩
  unfold eM
  rw [e1, e2, e3]
  have : cM ρ (dH ρ (s / tmv ρ) / 8) * 8 + dH ρ (s / tmv ρ) % 8 = s / tmv ρ := by
    unfold hI at d3; omega
  rw [this, Nat.mul_comm]
  exact dm
theorem eM_inj2 {ρ : Rv} (hW : WF ρ) {m m' : Nat} (hm : m / 384 < tmv ρ) (s1 : inR ρ (m % 384 / 8)) (hm' : m' / 384 < tmv ρ) (s2 : inR ρ (m' % 384 / 8)) (e : eM ρ m = eM ρ m') : m = m' := by
  obtain ⟨-, a2, a3, a4, -⟩ := eM_parts hW hm s1
  obtain ⟨-, b2, b3, b4, -⟩ := eM_parts hW hm' s2
  rw [e] at a2 a3 a4
  have c := cM_inj hW s1 s2 (a3.symm.trans b3)
  omega
theorem statesF {ρ : Rv} {h g : Hp} (hW : WF ρ) (hR : RM ρ h) {kn fb : Nat} (e : FB kn fb h g) : K_M_states g = some (nI (rW ρ * rH ρ * 8 * tmv ρ)) := by
  have q2 := FB_RM e hR
  unfold K_M_states K_M_squares
  rw [gA_lit (x := 0) (i := 0) rfl (by omega) (by omega), gA_lit (x := 0 + 1) (i := 1) (by decide) (by omega) (by omega), q2.1, q2.2.1, bd_s, timesM hW q2, bd_s, show (8 : Int32) = nI 8 from rfl, nI_mul, nI_mul, nI_mul]
/-- one pass -/
theorem farPass {ρ : Rv} {h g : Hp} (hW : WF ρ) (w : rW ρ ≠ 0) (N : Nat) (hN : 4000 < N) (hR : RM ρ h) {kind : Nat} (hk : kind ≤ 10) (hF : FB (knd kind) (fbK kind) h g) {j : Nat} (hj : j < 60) (hT : fT ρ kind (j + 1) 0 g) : ∃ v g', loopN (fun z_ : Int32 × Int32 × Hp => K_M_findFar_L54 N z_.1 (nI (j + 1)) z_.2.1 z_.2.2) N (0, 0, g) = some (v, g') ∧ FB (knd kind) (fbK kind) h g' ∧ fT ρ kind (j + 2) 0 g' ∧ (v = 1 ∨ (v = 0 ∧ ∀ m, okM ρ m → fD ρ kind m ≠ j + 1)) := by
  have sb := states_b hW
  have tb := tmv_b hW
  have wh := WH_b hW
  obtain ⟨t, l1, v, g', e, f1, f2, f3⟩ := loopN_fx (fun z_ : Int32 × Int32 × Hp => K_M_findFar_L54 N z_.1 (nI (j + 1)) z_.2.1 z_.2.2) (fun i s => ∃ v g', s = (v, nI i, g') ∧ FB (knd kind) (fbK kind) h g' ∧ fT ρ kind (j + 1) i g' ∧ (v = 1 ∨ (v = 0 ∧ ∀ m, okM ρ m → eM ρ m < i → fD ρ kind m ≠ j + 1))) (rW ρ * rH ρ * 8 * tmv ρ) (fun t => ∃ v g', t = (v, g') ∧ FB (knd kind) (fbK kind) h g' ∧ fT ρ kind (j + 1) (rW ρ * rH ρ * 8 * tmv ρ) g' ∧ (v = 1 ∨ (v = 0 ∧ ∀ m, okM ρ m → eM ρ m < rW ρ * rH ρ * 8 * tmv ρ → fD ρ kind m ≠ j + 1))) (fun i s hi hJ => by
      obtain ⟨v, g1, e, f1, f2, f3⟩ := hJ
      subst e
      obtain ⟨d1, d2, d3, d4, d5, d6, d7⟩ := dE_ok hW w hi
      have q2 := FB_RM f1 hR
      have k6 : kd ρ (dE ρ i % 384 / 8) ≤ 6 := hW.2.2.2.2.2.2.2.2.2.2.2.2.1 _
      have hcl := cM_lt hW d2
      have same : ∀ m, okM ρ m → eM ρ m = i → m = dE ρ i := fun m hm e => eM_inj2 hW hm.1 (okS_in hW hm.2) d1 d2 (e.trans d3.symm)
      have keep : ∀ g2 : Hp, FB (knd kind) (fbK kind) h g2 → g2 108 = g1 108 → (okM ρ (dE ρ i) → fD ρ kind (dE ρ i) ≠ j + 1) → ∃ s', (nm (nI i + 1) (fun v123 => some (.inl (v, v123, g2))) : Option ((Int32 × Int32 × Hp) ⊕ (Int32 × Hp))) = some (.inl s') ∧ ∃ v' g', s' = (v', nI (i + 1), g') ∧ FB (knd kind) (fbK kind) h g' ∧ fT ρ kind (j + 1) (i + 1) g' ∧ (v' = 1 ∨ (v' = 0 ∧ ∀ m, okM ρ m → eM ρ m < i + 1 → fD ρ kind m ≠ j + 1)) := by
        intro g2 s1 s2 s3
        rw [show nI i + 1 = nI (i + 1) from nI_add i 1, nm_s]
        refine ⟨_, rfl, v, g2, rfl, s1, fun m hm => ?_, ?_⟩
        · rw [s2, f2 m hm]
          congr 1
          have e1 : (fD ρ kind m < j + 1 ∨ fD ρ kind m = j + 1 ∧ eM ρ m < i) ↔ (fD ρ kind m < j + 1 ∨ fD ρ kind m = j + 1 ∧ eM ρ m < i + 1) := by
            by_cases c : eM ρ m = i
            · have := same m hm c
              have n := s3 (this ▸ hm)
              rw [← this] at n
              omega
            · omega
          simp only [e1]
        · rcases f3 with q | ⟨q, q4⟩
          · exact .inl q
          · refine .inr ⟨q, fun m hm hl => ?_⟩
            by_cases c : eM ρ m = i
            · have := same m hm c
              rw [this] at hm ⊢
              exact s3 hm
            · exact q4 m hm (by omega)
      show ∃ s', K_M_findFar_L54 N v (nI (j + 1)) (nI i) g1 = some (.inl s') ∧ _
      unfold K_M_findFar_L54 K_M_findFar_J95
      rw [statesF hW hR f1, bd_s, if_neg (fun q => by have := (nI_le_iff (by omega) (by omega)).mp q; omega), gA_nI (by omega) (by omega), timesM hW q2, bd_s, dz_nI (by omega) (by omega), nI_div (by omega) (by omega) (by omega), show (8 : Int32) = nI 8 from rfl, nI_div (by omega) (by omega) (by omega), d5, gA_nI (by omega) (by omega), q2.2.2.2.2.2.2.2.2.2.2.1 _ d2]
      unfold K_M_findFar_J96
      rw [if_pos (show (0 : Int32) = 0 from rfl), if_neg (show ¬ (1 : Int32) = 0 by decide)]
      by_cases hs : kd ρ (dE ρ i % 384 / 8) = 1
      · have hno : ¬ okM ρ (dE ρ i) := fun q => q.2.2 hs
        rw [if_pos (show nI (kd ρ (dE ρ i % 384 / 8)) = 1 by rw [hs]; rfl)]
        have kp := keep g1 f1 rfl (fun q => absurd q hno)
        by_cases c : g1 108 i = 99999999
        · rw [if_pos c]; exact kp
        · rw [if_neg c]; exact kp
      · have hm : okM ρ (dE ρ i) := ⟨d1, inR_lt hW d2, hs⟩
        have hkn : ¬ nI (kd ρ (dE ρ i % 384 / 8)) = 1 := fun q => hs ((nI_eq_iff (b := 1) (by omega) (by omega)).mp q)
        have fb := fD_b ρ kind (dE ρ i)
        have ev := f2 _ hm
        rw [d3] at ev
        by_cases c : fD ρ kind (dE ρ i) < j + 1
        · rw [ev, if_pos (show fD ρ kind (dE ρ i) < j + 1 ∨ fD ρ kind (dE ρ i) = j + 1 ∧ i < i from .inl c), if_neg (fun q => by have := (nI_eq_iff (b := 99999999) (by omega) (by omega)).mp q; omega)]
          exact keep g1 f1 rfl (fun _ => by omega)
        · rw [ev, if_neg (show ¬ (fD ρ kind (dE ρ i) < j + 1 ∨ fD ρ kind (dE ρ i) = j + 1 ∧ i < i) by omega), if_pos (show nI 99999999 = 99999999 from rfl), if_neg hkn]
          obtain ⟨v2, g2, z1, z2, z3, z4, z5, z6⟩ := leastAfterM hW N (by omega) hR hk f1 hm f2
          rw [d3] at z1
          have st := fD_step (ρ := ρ) (kind := kind) (n := j) (m := dE ρ i) hj (by omega)
          rw [z1, bd2_s, show nI (j + 1) - 1 = nI j from by rw [show (1 : Int32) = nI 1 from rfl, nI_sub (by omega)]; rfl]
          by_cases c2 : v2 = j
          · rw [if_pos (congrArg nI c2)]
            have d : fD ρ kind (dE ρ i) = j + 1 := st.mpr (by
              rcases z6 with q | ⟨p, p1, p2⟩
              · omega
              · exact ⟨p, p1, (fV_eq (by omega) (by omega)).mp (p2.symm.trans c2)⟩)
            rw [sA_nI (by omega) (by omega), nI_cl (by omega), nm_s, show nI i + 1 = nI (i + 1) from nI_add i 1, nm_s]
            refine ⟨_, rfl, 1, _, rfl, FB_108 z2 _ _, fun m hm2 => ?_, .inl rfl⟩
            rw [hset_at]
            by_cases c3 : eM ρ m = i
            · have := same m hm2 c3
              rw [c3, upd_at, this, d, if_pos (show j + 1 < j + 1 ∨ j + 1 = j + 1 ∧ i < i + 1 by omega)]
            · rw [upd_ne _ _ c3, z3, f2 m hm2]
              congr 1
              have e1 : (fD ρ kind m < j + 1 ∨ fD ρ kind m = j + 1 ∧ eM ρ m < i) ↔ (fD ρ kind m < j + 1 ∨ fD ρ kind m = j + 1 ∧ eM ρ m < i + 1) := by omega
              simp only [e1]
          · rw [if_neg (fun q => c2 ((nI_eq_iff (by omega) (by omega)).mp q))]
            refine keep g2 z2 z3 (fun _ d => ?_)
            obtain ⟨p, p1, p2⟩ := st.mp d
            have a1 := (fV_eq (ρ := ρ) (kind := kind) (n := j + 1) (b := i) (by omega) (by omega)).mpr p2
            have a2 := z5 p p1 trivial
            rcases z6 with q | ⟨p', p1', p2'⟩
            · omega
            · have a3 := fD_ge (ρ := ρ) p1' hj (show j < fD ρ kind (dE ρ i) by omega)
              have a4 := (fV_b ρ kind (j + 1) i (aft ρ (knd kind) (dE ρ i) p')).2
              omega) (fun s hJ => by
      obtain ⟨v, g1, e, f1, f2, f3⟩ := hJ
      subst e
      refine ⟨(v, g1), ?_, v, g1, rfl, f1, f2, f3⟩
      show K_M_findFar_L54 N v (nI (j + 1)) (nI _) g1 = _
      unfold K_M_findFar_L54
      rw [statesF hW hR f1, bd_s, if_pos ((nI_le_iff (by omega) (by omega)).mpr (Nat.le_refl _))]) (s0 := (0, 0, g)) ⟨0, g, rfl, hF, hT, .inr ⟨rfl, fun m _ hl => absurd hl (Nat.not_lt_zero _)⟩⟩ (N := N) (by omega)
  subst e
  refine ⟨v, g', l1, f1, fun m hm => ?_, ?_⟩
  · rw [f2 m hm]
    congr 1
    have := eM_lt hW hm
    have e1 : (fD ρ kind m < j + 1 ∨ fD ρ kind m = j + 1 ∧ eM ρ m < rW ρ * rH ρ * 8 * tmv ρ) ↔ (fD ρ kind m < j + 2 ∨ fD ρ kind m = j + 2 ∧ eM ρ m < 0) := by omega
    simp only [e1]
  · rcases f3 with q | ⟨q, q4⟩
    · exact .inl q
    · exact .inr ⟨q, fun m hm => q4 m hm (eM_lt hW hm)⟩
theorem findFarM {ρ : Rv} {h g : Hp} (hW : WF ρ) (w : rW ρ ≠ 0) (N : Nat) (hN : 4000 < N) (hR : RM ρ h) {kind : Nat} (hk : kind ≤ 10) (hF : FB (knd kind) (fbK kind) h g) : ∃ g', K_M_findFar N g = some g' ∧ FB (knd kind) (fbK kind) h g' ∧ fT ρ kind 61 0 g' := by
  have sb := states_b hW
  have tb := tmv_b hW
  have wh := WH_b hW
  obtain ⟨t1, l1, f1, f2⟩ := loopN_fx (fun z_ : Int32 × Hp => K_M_findFar_L2 N z_.1 z_.2) (fun i s => ∃ g', s = (nI i, g') ∧ FB (knd kind) (fbK kind) h g' ∧ ∀ m, okM ρ m → eM ρ m < i → g' 108 (eM ρ m) = nI (if isG ρ (m % 384) = true then 0 else 99999999)) (rW ρ * rH ρ * 8 * tmv ρ) (fun t => FB (knd kind) (fbK kind) h t ∧ fT ρ kind 1 0 t) (fun i s hi hJ => by
      obtain ⟨g1, e, f1, f2⟩ := hJ
      subst e
      obtain ⟨d1, d2, d3, d4, d5, d6, d7⟩ := dE_ok hW w hi
      have q2 := FB_RM f1 hR
      refine ⟨(nI (i + 1), hset g1 108 i (nI (if isG ρ (dE ρ i % 384) = true then 0 else 99999999))), ?_, _, rfl, FB_108 f1 _ _, fun m hm hl => ?_⟩
      · show K_M_findFar_L2 N (nI i) g1 = _
        unfold K_M_findFar_L2 K_M_findFar_J29 K_M_isGoalState
        rw [statesF hW hR f1, bd_s, if_neg (fun q => by have := (nI_le_iff (by omega) (by omega)).mp q; omega), timesM hW q2, bd_s, dz_nI (by omega) (by omega), nI_div (by omega) (by omega) (by omega), nm_s, show (8 : Int32) = nI 8 from rfl, nI_div (by omega) (by omega) (by omega), nI_rem (by omega) (by omega) (by omega), d5, d6, isGoalM hW q2 ⟨fun z => absurd z w, fun _ => d2⟩ (by omega), bd_s, sA_nI (by omega) (by omega), sA_nI (by omega) (by omega), nI_cl (by omega), nm_s, nm_s, show nI i + 1 = nI (i + 1) from nI_add i 1, nm_s, nm_s, d7]
        by_cases c : isG ρ (dE ρ i % 384) = true
        · rw [if_pos c, if_pos c]; rfl
        · rw [if_neg c, if_neg c]; rfl
      · rw [hset_at]
        by_cases c : eM ρ m = i
        · have := eM_inj2 hW hm.1 (okS_in hW hm.2) d1 d2 (c.trans d3.symm)
          rw [c, upd_at, this]
        · rw [upd_ne _ _ c]
          exact f2 m hm (by omega)) (fun s hJ => by
      obtain ⟨g1, e, f1, f2⟩ := hJ
      subst e
      refine ⟨g1, ?_, f1, fun m hm => ?_⟩
      · show K_M_findFar_L2 N (nI _) g1 = _
        unfold K_M_findFar_L2
        rw [statesF hW hR f1, bd_s, if_pos ((nI_le_iff (by omega) (by omega)).mpr (Nat.le_refl _))]
      · rw [f2 m hm (eM_lt hW hm)]
        have z := fD_0 (ρ := ρ) (kind := kind) (m := m)
        congr 1
        by_cases c : isG ρ (m % 384) = true
        · have := z.mpr c
          rw [if_pos c, if_pos (by omega), this]
        · have : ¬ fD ρ kind m = 0 := fun q => c (z.mp q)
          rw [if_neg c, if_neg (by omega)]) (s0 := (0, g)) ⟨g, rfl, hF, fun m _ hl => absurd hl (Nat.not_lt_zero _)⟩ (N := N) (by omega)
  obtain ⟨t2, l2, f3, f4⟩ := loopN_inv (fun z_ : Int32 × Int32 × Hp => K_M_findFar_L40 N z_.1 z_.2.1 z_.2.2) (fun s => ∃ v n f, s = (v, nI n, f) ∧ 1 ≤ n ∧ n ≤ 61 ∧ FB (knd kind) (fbK kind) h f ∧ fT ρ kind n 0 f ∧ (v = 1 ∨ (v = 0 ∧ 2 ≤ n ∧ ∀ m, okM ρ m → fD ρ kind m ≠ n - 1))) (fun s => 61 - s.2.1.toNatClampNeg) (fun t => FB (knd kind) (fbK kind) h t ∧ fT ρ kind 61 0 t) (fun s hI => by
      obtain ⟨v, n, f, e, q1, q2, q3, q4, q5⟩ := hI
      subst e
      show (∃ s', K_M_findFar_L40 N v (nI n) f = some (.inl s') ∧ _) ∨ (∃ t, K_M_findFar_L40 N v (nI n) f = some (.inr t) ∧ _)
      unfold K_M_findFar_L40
      by_cases c1 : 60 < n
      · right
        have : n = 61 := by omega
        subst this
        exact ⟨f, by rw [if_pos (show (60 : Int32) < nI 61 by decide)], q3, q4⟩
      · rw [if_neg (show ¬ (60 : Int32) < nI n from fun z => c1 ((nI_lt_iff (a := 60) (by omega) (by omega)).mp z))]
        rcases q5 with q5 | ⟨q5, q6, q7⟩
        · left
          rw [q5, if_neg (by decide)]
          obtain ⟨j, rfl⟩ : ∃ j, n = j + 1 := ⟨n - 1, by omega⟩
          obtain ⟨v', f', z1, z2, z3, z4⟩ := farPass hW w N hN hR hk q3 (j := j) (by omega) q4
          refine ⟨(v', nI (j + 2), f'), ?_, ⟨v', j + 2, f', rfl, by omega, by omega, z2, z3, ?_⟩, ?_⟩
          · rw [z1, bd_s, show nI (j + 1) + 1 = nI (j + 2) from nI_add (j + 1) 1, nm_s]
          · rcases z4 with z4 | ⟨z4, z5⟩
            · exact .inl z4
            · exact .inr ⟨z4, by omega, z5⟩
          · show 61 - (nI (j + 2)).toNatClampNeg < 61 - (nI (j + 1)).toNatClampNeg
            rw [nI_cl (by omega), nI_cl (by omega)]
            omega
        · right
          refine ⟨f, by rw [q5, if_pos rfl], q3, fun m hm => ?_⟩
          rw [q4 m hm]
          congr 1
          have := fD_stop hW ⟨by omega, by omega⟩ q7 m hm
          have e1 : (fD ρ kind m < n ∨ fD ρ kind m = n ∧ eM ρ m < 0) ↔ (fD ρ kind m < 61 ∨ fD ρ kind m = 61 ∧ eM ρ m < 0) := by omega
          simp only [e1]) N (1, 1, t1) ⟨1, 1, t1, rfl, by omega, by omega, f1, f2, .inl rfl⟩ (by show 61 - _ < N; omega)
  refine ⟨t2, ?_, f3, f4⟩
  unfold K_M_findFar
  rw [l1, bd_s, l2, bd_s]
