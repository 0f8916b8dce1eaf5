/-! the class: pushes, tables, strokes -/
theorem ofNat_lit (n : Nat) : (OfNat.ofNat n : Int32) = nI n := rfl
theorem pushedL {ρ : Rv} {h : Hp} (hW : WF ρ) (hR : RC ρ h) (N : Nat) {d : Nat} (hd : d < 1000) {n : Nat} (hn : n ≤ 2) {s : Nat} (hs : s < 48) (hN : 3 < N) :
    loopN (fun z_ : Int32 × Int32 => K_River_pushed_L38 N z_.1 (nI d) (nI n) z_.2 h) N (nI s, 0) = some (nI (nbs ρ d n s)) := by
  have key : ∀ (k i N' s : Nat), i + k = n → k < N' → s < 48 → loopN (fun z_ : Int32 × Int32 => K_River_pushed_L38 N z_.1 (nI d) (nI n) z_.2 h) N' (nI s, nI i) = some (nI (nbs ρ d k s)) := by
    intro k
    induction k with
    | zero =>
      intro i N' s hi hN' hs
      obtain ⟨N', rfl⟩ : ∃ m, N' = m + 1 := ⟨N' - 1, by omega⟩
      refine loopN_t N' ?_
      unfold K_River_pushed_L38
      rw [if_pos ((nI_le_iff (by omega) (by omega)).mpr (by omega))]
      rfl
    | succ k ih =>
      intro i N' s hi hN' hs
      obtain ⟨N', rfl⟩ : ∃ m, N' = m + 1 := ⟨N' - 1, by omega⟩
      have hb : K_River_pushed_L38 N (nI s) (nI d) (nI n) (nI i) h = some (.inl (nI (nb ρ s d), nI (i + 1))) := by
        unfold K_River_pushed_L38
        rw [if_neg (fun z => by rw [nI_le_iff (by omega) (by omega)] at z; omega), if_neg (fun z => by
          have z : nI 2 ≤ nI i := z
          rw [nI_le_iff (by omega) (by omega)] at z; omega), neighK hW hR hs hd]
        simp only [bd_s, nm_s, nI_1]
      rw [loopN_s N' hb]
      exact ih (i + 1) N' (nb ρ s d) (by omega) (by omega) (nb_lt hs)
  exact key n 0 N s (by omega) (by omega) hs
theorem pushedJ67 {ρ : Rv} {h : Hp} (hW : WF ρ) (hR : RC ρ h) (N : Nat) {s : Nat} (hs : s < 48) : K_River_pushed_J67 N (nI s) h = some (nI (stm ρ s)) := by
  unfold K_River_pushed_J67
  rw [kindK hR hs, bd_s]
  have hk6 : kd ρ s ≤ 6 := hW.2.2.2.2.2.2.2.2.2.2.2.2.1 _
  have c : (3 : Int32) ≤ nI (kd ρ s) ↔ 3 ≤ kd ρ s := nI_le_iff (a := 3) (by omega) (by omega)
  unfold stm
  by_cases h3 : 3 ≤ kd ρ s
  · rw [if_pos (c.mpr h3), if_pos h3]
    have e : 2 * (nI (kd ρ s) - 3) = nI (2 * (kd ρ s - 3)) := by
      show nI 2 * (nI (kd ρ s) - nI 3) = _
      rw [nI_sub h3, nI_mul]
    rw [e, neighK hW hR hs (by omega), bd_s]
  · rw [if_neg (fun z => h3 (c.mp z)), if_neg h3]
theorem pushedJ14 {ρ : Rv} {h : Hp} (hW : WF ρ) (hR : RC ρ h) (N : Nat) (hN : 3 < N) {s d : Nat} (hs : s < 48) (hd : d < 1000) {q : Int} (hq : -2 ≤ q ∧ q ≤ 2) : K_River_pushed_J14 N (nI s) (iI q) (nI s) (nI d) h = some (nI (stm ρ (if kd ρ s = 2 then s else nbs ρ d q.natAbs s))) := by
  unfold K_River_pushed_J14
  rw [kindK hR hs, bd_s]
  have hk6 : kd ρ s ≤ 6 := hW.2.2.2.2.2.2.2.2.2.2.2.2.1 _
  have c : nI (kd ρ s) = (2 : Int32) ↔ kd ρ s = 2 := nI_eq_iff (b := 2) (by omega) (by omega)
  have a : (if 0 ≤ iI q then iI q else 0 - iI q) = nI q.natAbs := by
    have c0 : (0 : Int32) ≤ iI q ↔ 0 ≤ q := iI_le_iff (a := 0) (by omega) (by omega) (by omega) (by omega)
    by_cases h0 : 0 ≤ q
    · rw [if_pos (c0.mpr h0), nI_iI]; congr 1; omega
    · rw [if_neg (fun z => h0 (c0.mp z)), nI_iI]
      show iI 0 - iI q = _
      rw [iI_sub]; congr 1; omega
  unfold K_River_pushed_J33
  by_cases h2 : kd ρ s = 2
  · rw [if_pos (c.mpr h2), if_pos h2]
    have := pushedL hW hR N hd (n := 0) (by omega) hs hN
    rw [show (0 : Int32) = nI 0 from rfl] at this ⊢
    rw [this, bd_s]
    exact pushedJ67 hW hR N hs
  · rw [if_neg (fun z => h2 (c.mp z)), if_neg h2, a, pushedL hW hR N hd (by omega) hs hN, bd_s]
    exact pushedJ67 hW hR N (nbs_lt _ hs)
theorem nb_mod (ρ : Rv) (s d : Nat) : nb ρ s (d % 8) = nb ρ s d := by
  have e1 : eI (d % 8) = eI d := by unfold eI; rw [Nat.mod_mod]
  have e2 : sI (d % 8) = sI d := by unfold sI; rw [Nat.mod_mod]
  unfold nb
  rw [e1, e2]
theorem pushedK {ρ : Rv} {h : Hp} (hW : WF ρ) (hR : RC ρ h) (N : Nat) (hN : 3 < N) {s d : Nat} (hs : s < 48) (hd : d < 8) {q : Int} (hq : -2 ≤ q ∧ q ≤ 2) : K_River_pushed N (nI s) (nI d) (iI q) h = some (nI (pu ρ s d q)) := by
  unfold K_River_pushed
  have c0 : (0 : Int32) ≤ iI q ↔ 0 ≤ q := iI_le_iff (a := 0) (by omega) (by omega) (by omega) (by omega)
  unfold pu pu0
  by_cases h0 : 0 ≤ q
  · rw [if_pos (c0.mpr h0), pushedJ14 hW hR N hN hs (by omega) hq]
    simp only [show ¬ q < 0 by omega, if_false]
  · rw [if_neg (fun z => h0 (c0.mp z))]
    have e : nI d + 4 = nI (d + 4) := nI_add d 4
    rw [e, pushedJ14 hW hR N hN hs (by omega) hq]
    simp only [show q < 0 by omega, if_true]
theorem blownK {ρ : Rv} {h : Hp} (hW : WF ρ) (hR : RC ρ h) {s : Nat} (hs : s < 48) : K_River_blown (nI s) h = some (nI (bl ρ s)) := by
  unfold K_River_blown
  rw [hR.2.2.2.2.2.2.2.2.2.1]
  have hw := hW.2.2.2.2.2.2.2.2.2.1
  have c : iI ((rWw ρ : Int) - 1) = (-1 : Int32) ↔ ((rWw ρ : Int) - 1) = -1 := iI_eq_iff (b := -1) (by omega) (by omega) (by omega) (by omega)
  unfold bl
  by_cases h0 : rWw ρ = 0
  · rw [if_pos (c.mpr (by omega)), if_pos h0]
  · rw [if_neg (fun z => h0 (by have := c.mp z; omega)), if_neg h0]
    have e : 2 * iI ((rWw ρ : Int) - 1) = nI (2 * (rWw ρ - 1)) := by
      show iI 2 * iI _ = _
      rw [iI_mul, nI_iI]; congr 1; omega
    rw [e, neighK hW hR hs (by omega), bd_s]
theorem RC_of {ρ : Rv} {h h' : Hp} (e0 : h' 10 = h 10) (e1 : h' 11 = h 11) (e2 : h' 12 = h 12) (hR : RC ρ h) : RC ρ h' := by
  unfold RC at hR ⊢
  rw [e0, e1, e2]
  exact hR
/-- Waters.chart: the tables -/
theorem chartK {ρ : Rv} {h : Hp} (hW : WF ρ) (hR : RC ρ h) (N : Nat) (hN : 2000 < N) : ∃ h1, K_Waters_chart N h = some h1 ∧ RL ρ h1 ∧ ∀ r, r ≠ 15 → r ≠ 16 → r ≠ 17 → h1 r = h r := by
  unfold K_Waters_chart
  have hb := tmv_b hW
  have e0 : (if 1 < h 10 11 then h 10 11 else 1) = nI (tmv ρ) := by
    rw [hR.2.2.2.2.2.2.2.2.2.2.1]
    have hwe := hW.2.2.2.2.2.2.2.2.2.2.1
    have c : (1 : Int32) < nI (rWe ρ) ↔ 1 < rWe ρ := nI_lt_iff (a := 1) (by omega) (by omega)
    unfold tmv
    by_cases h1 : 1 < rWe ρ
    · rw [if_pos (c.mpr h1), if_pos h1]
    · rw [if_neg (fun z => h1 (c.mp z)), if_neg h1]; rfl
  rw [e0, nm_s]
  -- the first loop
  let f1 : Nat → Int32 × Hp := fun i => (nI i, hrow (hset h 15 2 (nI (tmv ρ))) 17 (fun j => if j < i then nI (bl ρ j) else h 17 j))
  have hR1 : ∀ i, RC ρ (f1 i).2 := fun i => RC_of (by simp [f1, hrow, hset]) (by simp [f1, hrow, hset]) (by simp [f1, hrow, hset]) hR
  have s1 : loopN (fun z_ : Int32 × Hp => K_Waters_chart_L14 N z_.1 z_.2) N (0, hset h 15 2 (nI (tmv ρ))) = some (f1 48).2 := by
    have e1 : ((0, hset h 15 2 (nI (tmv ρ))) : Int32 × Hp) = f1 0 := by
      refine Prod.ext rfl ?_
      show hset h 15 2 (nI (tmv ρ)) = hrow _ 17 (fun j => if j < 0 then nI (bl ρ j) else h 17 j)
      have : (fun j => if j < 0 then nI (bl ρ j) else h 17 j) = (hset h 15 2 (nI (tmv ρ))) 17 := by
        rw [hset_ne _ _ _ (by decide)]; funext j; simp
      rw [this, hrow_self]
    rw [e1]
    refine loopN_for _ f1 48 (f1 48).2 (fun i hi => ?_) ?_ (by omega)
    · show K_Waters_chart_L14 N (nI i) (f1 i).2 = _
      unfold K_Waters_chart_L14
      rw [if_neg (fun z => by
        have z : nI 48 ≤ nI i := z
        rw [nI_le_iff (by omega) (by omega)] at z; omega), blownK hW (hR1 i) hi, bd_s, sA_nI hi (by omega), nm_s, nm_s, nI_cl (by omega)]
      have e2 : nI i + 1 = nI (i + 1) := nI_1 i
      rw [e2]
      congr 2
      refine Prod.ext rfl ?_
      exact hset_fill _ 17 (fun j => nI (bl ρ j)) (h 17) i
    · show K_Waters_chart_L14 N (nI 48) (f1 48).2 = _
      unfold K_Waters_chart_L14
      rw [if_pos (show (48 : Int32) ≤ nI 48 from by decide)]
  rw [s1, bd_s]
  let g := (f1 48).2
  let f2 : Nat → Int32 × Hp := fun i => (nI i, hrow g 16 (fun j => if j < i then nI (pu ρ (j / 5 / 8) (j / 5 % 8) ((j % 5 : Nat) - 2 : Int)) else g 16 j))
  have hR2 : ∀ i, RC ρ (f2 i).2 := fun i => by
    refine RC_of (h := g) ?_ ?_ ?_ (hR1 48) <;> simp [f2, hrow]
  have s2 : loopN (fun z_ : Int32 × Hp => K_Waters_chart_L42 N z_.1 z_.2) N (0, g) = some (f2 1920).2 := by
    have e1 : ((0, g) : Int32 × Hp) = f2 0 := by
      refine Prod.ext rfl ?_
      show g = hrow g 16 (fun j => if j < 0 then _ else g 16 j)
      have : (fun j => if j < 0 then nI (pu ρ (j / 5 / 8) (j / 5 % 8) ((j % 5 : Nat) - 2 : Int)) else g 16 j) = g 16 := by funext j; simp
      rw [this, hrow_self]
    rw [e1]
    refine loopN_for _ f2 1920 (f2 1920).2 (fun i hi => ?_) ?_ (by omega)
    · show K_Waters_chart_L42 N (nI i) (f2 i).2 = _
      unfold K_Waters_chart_L42
      have e5 : nI i / 5 = nI (i / 5) := nI_div (d := 5) (by omega) (by omega) (by omega)
      have e6 : nI (i / 5) / 8 = nI (i / 5 / 8) := nI_div (d := 8) (by omega) (by omega) (by omega)
      have e7 : rm32 (nI (i / 5)) 8 = nI (i / 5 % 8) := nI_rem (d := 8) (by omega) (by omega) (by omega)
      have e8 : rm32 (nI i) 5 - 2 = iI ((i % 5 : Nat) - 2 : Int) := by
        rw [show rm32 (nI i) 5 = nI (i % 5) from nI_rem (d := 5) (by omega) (by omega) (by omega), nI_iI]
        show _ - iI 2 = _
        rw [iI_sub]
      rw [if_neg (fun z => by
        have z : nI 1920 ≤ nI i := z
        rw [nI_le_iff (by omega) (by omega)] at z; omega), nm_s, e5, e6, e7, e8, pushedK hW (hR2 i) N (by omega) (by omega) (Nat.mod_lt _ (by decide)) (by omega), bd_s, sA_nI hi (by omega), nm_s, nm_s, nI_cl (by omega)]
      have e2 : nI i + 1 = nI (i + 1) := nI_1 i
      rw [e2]
      congr 2
      refine Prod.ext rfl ?_
      exact hset_fill _ 16 (fun j => nI (pu ρ (j / 5 / 8) (j / 5 % 8) ((j % 5 : Nat) - 2 : Int))) (g 16) i
    · show K_Waters_chart_L42 N (nI 1920) (f2 1920).2 = _
      unfold K_Waters_chart_L42
      rw [if_pos (show (1920 : Int32) ≤ nI 1920 from by decide)]
  rw [s2, bd_s]
  refine ⟨_, rfl, ⟨?_, ?_, ?_⟩, ?_⟩
  · show (f2 1920).2 15 2 = _
    simp [f2, g, f1, hrow, hset, upd]
  · intro i hi
    show (f2 1920).2 16 i = _
    simp only [f2, hrow_at, hi, if_true]
  · intro i hi
    show (f2 1920).2 17 i = _
    simp only [f2, hrow_ne _ _ (by decide : (17 : Nat) ≠ 16), g, f1, hrow_at, hi, if_true]
  · intro r h1 h2 h3
    show (f2 1920).2 r = _
    simp only [f2, hrow_ne _ _ h2, g, f1, hrow_ne _ _ h3, hset_ne _ _ _ h1]
