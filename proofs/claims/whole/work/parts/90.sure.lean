/-! surely: the theory, the look, the reference's table -/
theorem find_fsF (P : Nat → Bool) : ∀ (d i : Nat), (List.range' i d).find? P = if fsF P d i < i + d then some (fsF P d i) else none
  | 0, i => by
    rw [if_neg (show ¬ fsF P 0 i < i + 0 from Nat.lt_irrefl i)]
    rfl
  | d + 1, i => by
    show (match P i with | true => some i | false => (List.range' (i + 1) d).find? P) = if (if P i = true then i else fsF P d (i + 1)) < i + (d + 1) then some (if P i = true then i else fsF P d (i + 1)) else none
    by_cases c : P i = true
    · rw [c, if_pos rfl, if_pos (by omega)]
    · rw [if_neg c, Bool.eq_false_iff.mpr c, find_fsF P d (i + 1), show i + (d + 1) = i + 1 + d by omega]
theorem find16 (P : Nat → Bool) : ((List.range 16).find? P).getD 0 = if fs P 16 < 16 then fs P 16 else 0 := by
  rw [show List.range 16 = List.range' 0 16 from by decide, find_fsF P 16 0]
  unfold fs
  split <;> rfl
theorem any16 {P : Nat → Bool} : (List.range 16).any P = true ↔ ∃ p, p < 16 ∧ P p = true := by
  rw [List.any_eq_true]
  constructor
  · rintro ⟨p, h1, h2⟩
    exact ⟨p, List.mem_range.mp h1, h2⟩
  · rintro ⟨p, h1, h2⟩
    exact ⟨p, List.mem_range.mpr h1, h2⟩
theorem srw_s {ρ : Rv} {n u : Nat} : srw ρ (n + 1) u = true ↔ srw ρ n u = true ∨ ∃ p, p < 16 ∧ srw ρ n (cal ρ 0 u p) = true ∧ srw ρ n (gus ρ (cal ρ 0 u p)) = true := by
  show (srw ρ n u || (List.range 16).any (fun p => srw ρ n (cal ρ 0 u p) && srw ρ n (gus ρ (cal ρ 0 u p)))) = true ↔ _
  rw [Bool.or_eq_true, any16]
  simp only [Bool.and_eq_true]
theorem srw_up {ρ : Rv} {n u : Nat} (k : Nat) (h : srw ρ n u = true) : srw ρ (n + k) u = true := by
  induction k with
  | zero => exact h
  | succ k ih => exact srw_s.mpr (.inl ih)
theorem srw_le {ρ : Rv} {n m u : Nat} (hnm : n ≤ m) (h : srw ρ n u = true) : srw ρ m u = true := by
  have := srw_up (m - n) h
  rw [show n + (m - n) = m by omega] at this
  exact this
theorem srw_no {ρ : Rv} (h : rG ρ = 0) : ∀ n u, srw ρ n u = false := by
  intro n
  induction n with
  | zero =>
    intro u
    show isG ρ u = false
    unfold isG
    rw [decide_eq_false (show ¬ rG ρ ≠ 0 from fun z => z h)]
    rfl
  | succ n ih =>
    intro u
    refine Bool.eq_false_iff.mpr (fun z => ?_)
    rcases srw_s.mp z with q | ⟨p, -, q, -⟩
    · rw [ih] at q; exact absurd q (by decide)
    · rw [ih] at q; exact absurd q (by decide)
/-- in how many strokes at the worst; 31: not within 30 -/
def sD (ρ : Rv) (u : Nat) : Nat := fs (fun n => srw ρ n u) 31
theorem sD_le {ρ : Rv} {n u : Nat} (hn : n ≤ 30) : sD ρ u ≤ n ↔ srw ρ n u = true := by
  constructor
  · intro h
    have hl : sD ρ u < 31 := by omega
    have : srw ρ (sD ρ u) u = true := fs_at (fun n => srw ρ n u) (e := 31) hl
    exact srw_le h this
  · intro h
    by_cases c : sD ρ u ≤ n
    · exact c
    · have := fs_lt (fun n => srw ρ n u) (e := 31) (j := n) (show n < sD ρ u by omega)
      rw [h] at this
      exact absurd this (by decide)
theorem sD_b (ρ : Rv) (u : Nat) : sD ρ u ≤ 31 := fs_le _ _
theorem sD_0 {ρ : Rv} {u : Nat} : sD ρ u = 0 ↔ isG ρ u = true := by
  have := sD_le (ρ := ρ) (n := 0) (u := u) (by omega)
  constructor
  · intro h; exact this.mp (by omega)
  · intro h; have := this.mpr h; omega
/-- the pairs by which it is surely n strokes then -/
def sP (ρ : Rv) (n u p : Nat) : Bool := srw ρ n (cal ρ 0 u p) && srw ρ n (gus ρ (cal ρ 0 u p))
theorem sP_iff {ρ : Rv} {n u p : Nat} (hn : n ≤ 30) : sP ρ n u p = true ↔ sD ρ (cal ρ 0 u p) ≤ n ∧ sD ρ (gus ρ (cal ρ 0 u p)) ≤ n := by
  unfold sP
  rw [Bool.and_eq_true, sD_le hn, sD_le hn]
/-- n + 1 strokes, if it is more than n: some pair leads to n -/
theorem sD_step {ρ : Rv} {n u : Nat} (hn : n < 30) (h : n < sD ρ u) : sD ρ u = n + 1 ↔ ∃ p, p < 16 ∧ sP ρ n u p = true := by
  have a := sD_le (ρ := ρ) (n := n + 1) (u := u) (by omega)
  have b := sD_le (ρ := ρ) (n := n) (u := u) (by omega)
  constructor
  · intro e
    rcases srw_s.mp (a.mp (by omega)) with q | ⟨p, h1, h2, h3⟩
    · have := b.mpr q; omega
    · exact ⟨p, h1, by unfold sP; rw [h2, h3]; rfl⟩
  · rintro ⟨p, h1, h2⟩
    unfold sP at h2
    rw [Bool.and_eq_true] at h2
    have := a.mpr (srw_s.mpr (.inr ⟨p, h1, h2.1, h2.2⟩))
    omega
theorem cal_okS {ρ : Rv} {u p : Nat} (h : okS ρ (u / 8)) : okS ρ (cal ρ 0 u p / 8) ∧ cal ρ 0 u p < 384 := by
  have a := pu_ok (ρ := ρ) (d := dd (u % 8) (trI ρ 0 p)) (q := psI ρ 0 p) h
  have b := dd_lt (u % 8) (trI ρ 0 p)
  have l := a.1
  unfold cal
  generalize pu ρ (u / 8) (dd (u % 8) (trI ρ 0 p)) (psI ρ 0 p) = s at a l ⊢
  rw [show (8 * s + dd (u % 8) (trI ρ 0 p)) / 8 = s by omega]
  exact ⟨a, by omega⟩
theorem gus_okS {ρ : Rv} {u : Nat} (h : okS ρ (u / 8)) : okS ρ (gus ρ u / 8) ∧ gus ρ u < 384 := by
  have a := bl_ok (ρ := ρ) h
  have l := a.1
  unfold gus
  generalize bl ρ (u / 8) = s at a l ⊢
  rw [show (8 * s + u % 8) / 8 = s by omega]
  exact ⟨a, by omega⟩
/-- where nothing comes to n, nothing comes to more -/
theorem sD_stop {ρ : Rv} {n : Nat} (h : ∀ u, okS ρ (u / 8) → u < 384 → sD ρ u ≠ n) (hn : 1 ≤ n ∧ n ≤ 30) : ∀ u, okS ρ (u / 8) → u < 384 → sD ρ u < n ∨ sD ρ u = 31 := by
  have key : ∀ k, n + k ≤ 30 → ∀ u, okS ρ (u / 8) → u < 384 → srw ρ (n + k) u = true → srw ρ (n - 1) u = true := by
    intro k
    induction k with
    | zero =>
      intro hk u h1 h2 h3
      have a := (sD_le (ρ := ρ) (u := u) (n := n) hn.2).mpr h3
      have b := h u h1 h2
      exact (sD_le (by omega)).mp (by omega)
    | succ k ih =>
      intro hk u h1 h2 h3
      rcases srw_s.mp (show srw ρ (n + k + 1) u = true from h3) with q | ⟨p, a1, a2, a3⟩
      · exact ih (by omega) u h1 h2 q
      · have c1 := cal_okS (p := p) h1
        have c2 := gus_okS c1.1
        have b1 := ih (by omega) _ c1.1 c1.2 a2
        have b2 := ih (by omega) _ c2.1 c2.2 a3
        have b3 : srw ρ n u = true := by
          have := srw_s.mpr (.inr ⟨p, a1, b1, b2⟩)
          rw [show n - 1 + 1 = n by omega] at this
          exact this
        have a := (sD_le (ρ := ρ) (u := u) (n := n) hn.2).mpr b3
        have b := h u h1 h2
        exact (sD_le (by omega)).mp (by omega)
  intro u h1 h2
  have b := sD_b ρ u
  by_cases c : sD ρ u = 31
  · exact .inr c
  · left
    have a := (sD_le (ρ := ρ) (u := u) (n := 30) (by omega)).mp (by omega)
    have := key (30 - n) (by omega) u h1 h2 (by rw [show n + (30 - n) = 30 by omega]; exact a)
    have := (sD_le (ρ := ρ) (u := u) (n := n - 1) (by omega)).mpr this
    omega
-- the look
/-- the class's table, n the most strokes told, those of n below b alone -/
def wT (ρ : Rv) (n b : Nat) (h : Hp) : Prop := ∀ u, u < 384 → okS ρ (u / 8) → h 56 u = nI (if sD ρ u < n ∨ (sD ρ u = n ∧ u < b) then sD ρ u else 99)
theorem worstOfK {h : Hp} {u : Nat} (hu : u < 384) : K_Gusts_worstOf (nI u) h = some (h 56 u) := by
  unfold K_Gusts_worstOf
  have k8 : (384 : Int32) ≤ nI u ↔ 384 ≤ u := nI_le_iff (a := 384) (by omega) (by omega)
  rw [if_neg (nI_not_neg (by omega)), if_neg (fun z => by have := k8.mp z; omega), gA_nI (by omega) (by omega)]
theorem surePairK {k : Nat} {a : St} {h g : Hp} (hW : WF (sR a)) (N : Nat) (hN : 200 < N) (hC : cR (sR a) g) {u n m b : Nat} (hu : u < 384) (hs : okS (sR a) (u / 8)) (hn : n ≤ 29) (hm : n + 1 ≤ m) (hT : wT (sR a) m b g) : K_Gusts_surePair N (nI u) (nI (n + 1)) g = some (if fs (sP (sR a) n u) 16 < 16 then nI (fs (sP (sR a) n u) 16) else -1) := by
  have val : ∀ x, x < 384 → okS (sR a) (x / 8) → ∃ y, g 56 x = nI y ∧ y < 100 ∧ (y ≤ n ↔ sD (sR a) x ≤ n) := by
    intro x h1 h2
    have e := hT x h1 h2
    have sb := sD_b (sR a) x
    refine ⟨_, e, ?_, ?_⟩
    · split <;> omega
    · split <;> omega
  have body : ∀ p, p < 16 → K_Gusts_surePair_L3 N (nI u) (nI (n + 1)) (nI p) g = some (if sP (sR a) n u p = true then .inr (.inl (nI p)) else .inl (nI (p + 1))) := by
    intro p hp
    have c1 := cal_okS (p := p) hs
    have c2 := gus_okS c1.1
    obtain ⟨y1, e1, l1, v1⟩ := val _ c1.2 c1.1
    obtain ⟨y2, e2, l2, v2⟩ := val _ c2.2 c2.1
    unfold K_Gusts_surePair_L3
    rw [if_neg (fun q => by have := (nI_le_iff (a := 16) (by omega) (by omega)).mp q; omega), calmK hW hC.2.1 (by omega) hC.2.2 hu hp, bd_s, worstOfK c1.2, bd_s, e1, wgustK hC.2.1 c1.2, bd_s, worstOfK c2.2, bd_s, e2, show nI p + 1 = nI (p + 1) from nI_add p 1, nm_s]
    have k1 : nI (n + 1) ≤ nI y1 ↔ n + 1 ≤ y1 := nI_le_iff (by omega) (by omega)
    have k2 : nI (n + 1) ≤ nI y2 ↔ n + 1 ≤ y2 := nI_le_iff (by omega) (by omega)
    have sp := sP_iff (ρ := sR a) (n := n) (u := u) (p := p) (by omega)
    by_cases d1 : sD (sR a) (cal (sR a) 0 u p) ≤ n
    · rw [if_neg (fun z => by have := k1.mp z; have := v1.mpr d1; omega)]
      by_cases d2 : sD (sR a) (gus (sR a) (cal (sR a) 0 u p)) ≤ n
      · rw [if_neg (fun z => by have := k2.mp z; have := v2.mpr d2; omega), if_pos (sp.mpr ⟨d1, d2⟩)]
      · rw [if_pos (k2.mpr (by have := v2.mp; omega)), if_neg (fun z => d2 (sp.mp z).2)]
    · rw [if_pos (k1.mpr (by have := v1.mp; omega)), if_neg (fun z => d1 (sp.mp z).1)]
  obtain ⟨t, l1, l2⟩ := loopN_fs (fun z_ : Int32 => K_Gusts_surePair_L3 N (nI u) (nI (n + 1)) z_ g) (fun p s => s = nI p) (sP (sR a) n u) 16 (fun p t => t = .inl (nI p)) (fun t => t = .inr ()) (fun p s hp hJ hP => by
      subst hJ
      refine ⟨_, ?_, rfl⟩
      rw [body p hp, if_neg (fun z => by rw [z] at hP; exact absurd hP (by decide))]) (fun p s hp hJ hP => by
      subst hJ
      refine ⟨_, ?_, rfl⟩
      rw [body p hp, if_pos hP]) (fun s hJ => by
      subst hJ
      refine ⟨_, ?_, rfl⟩
      unfold K_Gusts_surePair_L3
      rw [if_pos (by decide)]) (s0 := 0) rfl (N := N) (by omega)
  unfold K_Gusts_surePair
  rw [show loopN (fun z_ : Int32 => K_Gusts_surePair_L3 N (nI u) (nI (n + 1)) z_ g) N 0 = some t from l1, bd_s]
  rcases l2 with ⟨q1, q2⟩ | ⟨q1, q2⟩
  · rw [if_pos q1, q2]; rfl
  · rw [if_neg (by omega), q2]; rfl
theorem widenK {a : St} {g : Hp} (hW : WF (sR a)) (N : Nat) (hN : 1000 < N) (hC : cR (sR a) g) {n : Nat} (hn : 1 ≤ n ∧ n ≤ 30) (hT : wT (sR a) n 0 g) : ∃ v g', K_Gusts_widen N (nI n) g = some (v, g') ∧ (∀ r, r ≠ 56 → g' r = g r) ∧ wT (sR a) (n + 1) 0 g' ∧ (v = 1 ∨ (v = 0 ∧ ∀ u, okS (sR a) (u / 8) → u < 384 → sD (sR a) u ≠ n)) := by
  obtain ⟨t, l1, l2⟩ := loopN_fx (fun z_ : Int32 × Int32 × Hp => K_Gusts_widen_L6 N (nI n) z_.1 z_.2.1 z_.2.2) (fun i s => ∃ v g', s = (v, nI i, g') ∧ (∀ r, r ≠ 56 → g' r = g r) ∧ wT (sR a) n i g' ∧ (v = 1 ∨ (v = 0 ∧ ∀ u, okS (sR a) (u / 8) → u < i → sD (sR a) u ≠ n))) 384 (fun t => ∃ v g', t = (v, g') ∧ (∀ r, r ≠ 56 → g' r = g r) ∧ wT (sR a) n 384 g' ∧ (v = 1 ∨ (v = 0 ∧ ∀ u, okS (sR a) (u / 8) → u < 384 → sD (sR a) u ≠ n))) (fun i s hi hJ => by
      obtain ⟨v, g1, e, f1, f2, f3⟩ := hJ
      subst e
      have hC1 : cR (sR a) g1 := cR_of (fun r hr => f1 r (by revert hr; revert r; decide)) hC
      have k6 : kd (sR a) (i / 8) ≤ 6 := hW.2.2.2.2.2.2.2.2.2.2.2.2.1 _
      have keep : ∀ g2 : Hp, (∀ r, r ≠ 56 → g2 r = g r) → wT (sR a) n i g2 → (okS (sR a) (i / 8) → sD (sR a) i ≠ n) → ∃ s', (some (.inl (v, nI (i + 1), g2)) : Option ((Int32 × Int32 × Hp) ⊕ (Int32 × Hp))) = some (.inl s') ∧ ∃ v' g', s' = (v', nI (i + 1), g') ∧ (∀ r, r ≠ 56 → g' r = g r) ∧ wT (sR a) n (i + 1) g' ∧ (v' = 1 ∨ (v' = 0 ∧ ∀ u, okS (sR a) (u / 8) → u < i + 1 → sD (sR a) u ≠ n)) := by
        intro g2 q1 q2 q3
        refine ⟨_, rfl, v, g2, rfl, q1, fun u hu hs => ?_, ?_⟩
        · rw [q2 u hu hs]
          by_cases c : u = i
          · subst c
            have := q3 hs
            congr 1
            have e1 : (sD (sR a) u < n ∨ sD (sR a) u = n ∧ u < u) ↔ (sD (sR a) u < n ∨ sD (sR a) u = n ∧ u < u + 1) := by omega
            simp only [e1]
          · congr 1
            have e1 : (sD (sR a) u < n ∨ sD (sR a) u = n ∧ u < i) ↔ (sD (sR a) u < n ∨ sD (sR a) u = n ∧ u < i + 1) := by omega
            simp only [e1]
        · rcases f3 with q | ⟨q, q4⟩
          · exact .inl q
          · refine .inr ⟨q, fun u hs hu => ?_⟩
            by_cases c : u = i
            · subst c; exact q3 hs
            · exact q4 u hs (by omega)
      show ∃ s', K_Gusts_widen_L6 N (nI n) v (nI i) g1 = some (.inl s') ∧ _
      unfold K_Gusts_widen_L6
      rw [if_neg (fun q => by have := (nI_le_iff (a := 384) (by omega) (by omega)).mp q; omega), gA_nI (by omega) (by omega), show nI i + 1 = nI (i + 1) from nI_add i 1, nm_s, show (8 : Int32) = nI 8 from rfl, nI_div (by omega) (by omega) (by omega), kindK hC1.1 (by omega), bd_s]
      by_cases hs : okS (sR a) (i / 8)
      · have hk : ¬ nI (kd (sR a) (i / 8)) = 1 := fun q => hs.2 ((nI_eq_iff (b := 1) (by omega) (by omega)).mp q)
        have e := f2 i hi hs
        have sb := sD_b (sR a) i
        by_cases c : sD (sR a) i < n
        · rw [e, if_pos (show sD (sR a) i < n ∨ sD (sR a) i = n ∧ i < i from .inl c), if_neg (fun q => by have := (nI_eq_iff (b := 99) (by omega) (by omega)).mp q; omega)]
          exact keep g1 f1 f2 (fun _ => by omega)
        · rw [e, if_neg (show ¬ (sD (sR a) i < n ∨ sD (sR a) i = n ∧ i < i) by omega), if_pos (show nI 99 = 99 from rfl), if_neg hk]
          obtain ⟨j, rfl⟩ : ∃ j, n = j + 1 := ⟨n - 1, by omega⟩
          rw [surePairK (k := 0) (h := g) hW N (by omega) hC1 hi hs (by omega) (Nat.le_refl _) f2, bd_s]
          have st := sD_step (ρ := sR a) (n := j) (u := i) (by omega) (by omega)
          have fl := fs_le (sP (sR a) j i) 16
          by_cases c2 : fs (sP (sR a) j i) 16 < 16
          · have d : sD (sR a) i = j + 1 := st.mpr ⟨_, c2, fs_at _ c2⟩
            rw [if_pos c2, if_neg (fun q => by
              have := nI_not_neg (a := fs (sP (sR a) j i) 16) (by omega)
              rw [q] at this
              exact this (by decide)), sA_nI (by omega) (by omega), nI_cl (by omega), nm_s]
            refine ⟨_, rfl, 1, _, rfl, fun r hr => ?_, fun u hu hsu => ?_, .inl rfl⟩
            · rw [hset_ne _ _ _ hr]; exact f1 r hr
            · rw [hset_at]
              by_cases c3 : u = i
              · subst c3
                rw [upd_at, if_pos (.inr ⟨d, by omega⟩), d]
              · rw [upd_ne _ _ c3, f2 u hu hsu]
                congr 1
                have e1 : (sD (sR a) u < j + 1 ∨ sD (sR a) u = j + 1 ∧ u < i) ↔ (sD (sR a) u < j + 1 ∨ sD (sR a) u = j + 1 ∧ u < i + 1) := by omega
                simp only [e1]
          · rw [if_neg c2, if_pos rfl]
            refine keep g1 f1 f2 (fun _ d => ?_)
            obtain ⟨p, h1, h2⟩ := st.mp d
            have := fs_lt (sP (sR a) j i) (e := 16) (j := p) (by omega)
            rw [h2] at this
            exact absurd this (by decide)
      · have hk : nI (kd (sR a) (i / 8)) = 1 := by
          have : kd (sR a) (i / 8) = 1 := by
            by_cases c : kd (sR a) (i / 8) = 1
            · exact c
            · exact absurd ⟨by omega, c⟩ hs
          rw [this]; rfl
        rw [if_pos hk]
        have kp := keep g1 f1 f2 (fun q => absurd q hs)
        by_cases c : g1 56 i = 99
        · rw [if_pos c]; exact kp
        · rw [if_neg c]; exact kp) (fun s hJ => by
      obtain ⟨v, g1, e, f1, f2, f3⟩ := hJ
      subst e
      refine ⟨(v, g1), ?_, v, g1, rfl, f1, f2, f3⟩
      show K_Gusts_widen_L6 N (nI n) v (nI 384) g1 = _
      unfold K_Gusts_widen_L6
      rw [if_pos (by decide)]) (s0 := (0, 0, g)) ⟨0, g, rfl, fun _ _ => rfl, hT, .inr ⟨rfl, fun u _ hu => absurd hu (Nat.not_lt_zero _)⟩⟩ (N := N) (by omega)
  obtain ⟨v, g', e, f1, f2, f3⟩ := l2
  subst e
  refine ⟨v, g', ?_, f1, fun u hu hs => ?_, f3⟩
  · unfold K_Gusts_widen
    rw [l1, bd_s]
    rcases f3 with q | ⟨q, -⟩
    · rw [q]; rfl
    · rw [q]; rfl
  · rw [f2 u hu hs]
    congr 1
    have e1 : (sD (sR a) u < n ∨ sD (sR a) u = n ∧ u < 384) ↔ (sD (sR a) u < n + 1 ∨ sD (sR a) u = n + 1 ∧ u < 0) := by omega
    simp only [e1]
