/-! what fits: counted heading by heading -/
/-- the moment behind k strokes of the line, with that heading -/
def mb (ρ : Rv) (ln : List Nat) (m k d : Nat) : Nat := 384 * ((m / 384 + k) % tmv ρ) + (8 * (if k = 0 then m % 384 / 8 else ln.getD (k - 1) 0) + d)
theorem aft_time {ρ : Rv} (hW : WF ρ) {x p : Nat} (hx : x / 384 < tmv ρ) : aft ρ 0 x p / 384 = (x / 384 + 1) % tmv ρ := by
  have h1 := cal_lt (ρ := ρ) (kn := 0) (u := x % 384) (p := p) (Nat.mod_lt _ (by decide))
  have h2 := gus_lt (ρ := ρ) h1
  unfold aft
  by_cases c : x / 384 + 1 < tmv ρ
  · rw [if_pos c, Nat.mod_eq_of_lt c]; omega
  · rw [if_neg c, show x / 384 + 1 = tmv ρ by omega, Nat.mod_self]; omega
def lnk (ρ : Rv) (ln : List Nat) : Prop := ln.length ≤ 4 ∧ ∀ s ∈ ln, inR ρ s
theorem lnk_get {ρ : Rv} (hW : WF ρ) {ln : List Nat} (h : lnk ρ ln) {k : Nat} (hk : k < ln.length) : ln.getD k 0 < 48 := inR_lt hW (h.2 _ (getD_mem hk))
theorem mb_ok {ρ : Rv} (hW : WF ρ) {ln : List Nat} (h : lnk ρ ln) {m k d : Nat} (hk : k ≤ ln.length) (hd : d < 8) : mb ρ ln m k d / 384 = (m / 384 + k) % tmv ρ ∧ mb ρ ln m k d / 384 < tmv ρ ∧ mb ρ ln m k d < 3456 ∧ mb ρ ln m k d % 8 = d := by
  have t := tmv_b hW
  have r := Nat.mod_lt (m / 384 + k) (by omega : 0 < tmv ρ)
  have s : (if k = 0 then m % 384 / 8 else ln.getD (k - 1) 0) < 48 := by
    by_cases c : k = 0
    · rw [if_pos c]; omega
    · rw [if_neg c]; exact lnk_get hW h (by omega)
  unfold mb
  omega
/-- the moment that comes, if it comes to the line's next square -/
theorem mb_next {ρ : Rv} (hW : WF ρ) {ln : List Nat} (h : lnk ρ ln) {m k d p : Nat} (hk : k < ln.length) (hd : d < 8) (e : aft ρ 0 (mb ρ ln m k d) p % 384 / 8 = ln.getD k 0) : aft ρ 0 (mb ρ ln m k d) p = mb ρ ln m (k + 1) (aft ρ 0 (mb ρ ln m k d) p % 8) := by
  obtain ⟨a1, a2, a3, a4⟩ := mb_ok hW h (m := m) (k := k) (d := d) (by omega) hd
  have t := aft_time hW (p := p) a2
  rw [a1, Nat.mod_add_mod] at t
  generalize aft ρ 0 (mb ρ ln m k d) p = y at e t ⊢
  unfold mb
  rw [if_neg (Nat.succ_ne_zero k), show k + 1 - 1 = k by omega, ← e, show m / 384 + (k + 1) = m / 384 + k + 1 by omega, ← t]
  omega
theorem mb_0 {ρ : Rv} {ln : List Nat} {m : Nat} (hm : m / 384 < tmv ρ) : mb ρ ln m 0 (m % 8) = m := by
  unfold mb
  rw [if_pos rfl, Nat.add_zero, Nat.mod_eq_of_lt hm]
  omega
theorem behindK {ρ : Rv} (hW : WF ρ) {h : Hp} (hL : RL ρ h) {ln : List Nat} (hl : lnk ρ ln) (hN : cN ln h) {m k d : Nat} (hm : m < 3456) (hk : k < ln.length) : K_Lines_momentBehind (nI k) (nI d) (nI m) h = some (nI (mb ρ ln m k d)) := by
  have t := tmv_b hW
  have l4 := hl.1
  have tb : K_Waters_timeBehind (nI (m / 384 + k)) h = some (nI ((m / 384 + k) % tmv ρ)) := by
    unfold K_Waters_timeBehind
    rw [hL.1, max1K (by omega) (by omega), dz_nI (by omega) (by omega), nI_rem (by omega) (by omega) (by omega)]
  have fin : ∀ s, s < 48 → K_Lines_momentBehind_J29 (nI k) (nI d) (nI m) (nI s) h = some (nI (384 * ((m / 384 + k) % tmv ρ) + (8 * s + d))) := by
    intro s hs
    unfold K_Lines_momentBehind_J29
    rw [show (384 : Int32) = nI 384 from rfl, nI_div (by omega) (by omega) (by omega), nI_add, tb, bd_s, show (8 : Int32) = nI 8 from rfl, nI_mul, nI_mul, nI_add, nI_add]
    exact congrArg (fun q => some (nI q)) (by rw [Nat.mul_comm 384]; omega)
  unfold K_Lines_momentBehind mb
  by_cases c : k = 0
  · rw [if_pos (show nI k ≤ (0 : Int32) from (nI_le_iff (b := 0) (by omega) (by omega)).mpr (by omega)), if_pos c]
    unfold K_Lines_momentBehind_J24
    rw [squareOfK (by omega), bd_s]
    exact fin _ (by omega)
  · rw [if_neg (show ¬ nI k ≤ (0 : Int32) from fun q => by have := (nI_le_iff (b := 0) (by omega) (by omega)).mp q; omega), if_neg (show ¬ (4 : Int32) < nI k from fun q => by have := (nI_lt_iff (a := 4) (by omega) (by omega)).mp q; omega), if_neg c, show (1 : Int32) = nI 1 from rfl, nI_sub (by omega), gA_nI (by omega) (by omega), hN.2 (k - 1) (by omega)]
    exact fin _ (lnk_get hW hl (by omega))
/-- the table of ways from the k-th stroke on -/
def yT (ρ : Rv) (ln : List Nat) (m k : Nat) (h : Hp) : Prop := ∀ j d, k ≤ j → j ≤ ln.length → d < 8 → h 62 (8 * j + d) = nI (wN ρ (ln.drop j) (mb ρ ln m j d))
theorem wN_b {ρ : Rv} {ln : List Nat} (h : ln.length ≤ 4) (j x : Nat) : wN ρ (ln.drop j) x ≤ 65536 := by
  have a := wN_le ρ (ln.drop j) x
  have b : (ln.drop j).length ≤ 4 := by rw [List.length_drop]; omega
  exact Nat.le_trans a (Nat.pow_le_pow_right (by decide) b)
theorem waysFromK {h : Hp} {k y : Nat} (hk : k ≤ 4) (hy : y < 2147483648) : K_Lines_waysFrom (nI k) (nI y) h = some (h 62 (8 * k + y % 8)) := by
  unfold K_Lines_waysFrom
  rw [headM hy, bd_s, show (8 : Int32) = nI 8 from rfl, nI_mul, nI_add, nm_s, Nat.mul_comm, if_neg (nI_not_neg (by omega)), if_neg (show ¬ (40 : Int32) ≤ nI (8 * k + y % 8) from fun q => by have := (nI_le_iff (a := 40) (by omega) (by omega)).mp q; omega), gA_nI (by omega) (by omega)]
/-- how many rows go on from where a stroke leads -/
def wY (ρ : Rv) (ln : List Nat) (k y : Nat) : Nat := if y % 384 / 8 = ln.getD k 0 then wN ρ (ln.drop (k + 1)) y else 0
theorem waysBehindK {ρ : Rv} (hW : WF ρ) {h : Hp} {ln : List Nat} (hl : lnk ρ ln) (hN : cN ln h) {m k d p : Nat} (hk : k < ln.length) (hd : d < 8) (hT : yT ρ ln m (k + 1) h) : K_Lines_waysBehind (nI k) (nI (aft ρ 0 (mb ρ ln m k d) p)) h = some (nI (wY ρ ln k (aft ρ 0 (mb ρ ln m k d) p))) := by
  have l4 := hl.1
  obtain ⟨a1, a2, a3, a4⟩ := mb_ok hW hl (m := m) (k := k) (d := d) (by omega) hd
  have yl := (aft_lt (kn := 0) (p := p) a2 hW).2
  have sl := lnk_get hW hl hk
  unfold K_Lines_waysBehind K_Lines_waysBehind_J38 K_Lines_waysBehind_J39 wY
  rw [if_neg (nI_not_neg (by omega)), hN.1, if_neg (fun q => by have := (nI_le_iff (by omega) (by omega)).mp q; omega), if_neg (show ¬ (4 : Int32) ≤ nI k from fun q => by have := (nI_le_iff (a := 4) (by omega) (by omega)).mp q; omega), squareOfK (by omega), bd_s, gA_nI (by omega) (by omega), hN.2 k hk]
  by_cases c : aft ρ 0 (mb ρ ln m k d) p % 384 / 8 = ln.getD k 0
  · rw [if_pos (congrArg nI c), if_neg (by decide), if_pos c, show nI k + 1 = nI (k + 1) from nI_add k 1, waysFromK (by omega) (by omega), bd_s, hT (k + 1) _ (Nat.le_refl _) hk (Nat.mod_lt _ (by decide)), ← mb_next hW hl hk hd c]
  · rw [if_neg (fun q => c ((nI_eq_iff (by omega) (by omega)).mp q)), if_pos rfl, if_neg c]
    rfl
/-- a row of ways is a sum -/
theorem wN_sum {ρ : Rv} {ln : List Nat} {k x : Nat} (hk : k < ln.length) : wN ρ (ln.drop k) x = sumN (fun p => wY ρ ln k (aft ρ 0 x p)) 16 := by
  have e : ln.drop k = ln.getD k 0 :: ln.drop (k + 1) := by
    rw [List.drop_eq_getElem_cons hk]
    congr 1
    rw [List.getD_eq_getElem?_getD, List.getElem?_eq_getElem hk]
    rfl
  rw [e]
  rfl
theorem countWaysK {k0 : Nat} {a : St} {h : Hp} (hk0 : k0 ≤ 64) (hv : VS k0 a) (hC : IC k0 a h) (N : Nat) (hN : 200 < N) (w : rW (sR a) ≠ 0) : ∃ h1, K_Lines_countWays N (nI (mo (sR a) (sB a))) h = some h1 ∧ (∀ r, r ≠ 62 → h1 r = h r) ∧ yT (sR a) (sN a) (mo (sR a) (sB a)) 0 h1 := by
  have hW := hv.1
  have hl : lnk (sR a) (sN a) := hv.2.2.2.2.1
  have l4 := hl.1
  have hm := (mo_parts hW (b := sB a) hv.2.2.1.1.1).2.2.2.2.2
  have hcN := hC.2.2.2.2.2.1
  generalize mo (sR a) (sB a) = m at hm ⊢
  generalize hln : sN a = ln at hl l4 hcN ⊢
  have kp : ∀ g : Hp, (∀ r, r ≠ 62 → g r = h r) → cR (sR a) g ∧ cN ln g := fun g hg => ⟨cR_of (fun r hr => hg r (fun z => by subst z; revert hr; decide)) hC.2.2.1, cN_of (by rw [hg 60 (by decide)]) (hg 61 (by decide)) hcN⟩
  -- the last row of the table
  obtain ⟨t1, l1, f1, f2⟩ := loopN_fx (fun z_ : Int32 × Hp => K_Lines_countWays_L2 N (nI m) z_.1 z_.2) (fun i s => ∃ g, s = (nI i, g) ∧ (∀ r, r ≠ 62 → g r = h r) ∧ ∀ x, x < i → g 62 x = nI (if x / 8 = ln.length then 1 else 0)) 40 (fun t => (∀ r, r ≠ 62 → t r = h r) ∧ yT (sR a) ln m ln.length t) (fun i s hi hJ => by
      obtain ⟨g, e, f1, f2⟩ := hJ
      subst e
      have n1 := (kp g f1).2.1
      refine ⟨(nI (i + 1), hset g 62 i (nI (if i / 8 = ln.length then 1 else 0))), ?_, _, rfl, fun r hr => (hset_ne _ _ _ hr).trans (f1 r hr), fun x hx => ?_⟩
      · show K_Lines_countWays_L2 N (nI m) (nI i) g = _
        unfold K_Lines_countWays_L2 K_Lines_countWays_J32
        rw [if_neg (show ¬ (40 : Int32) ≤ nI i from fun q => by have := (nI_le_iff (a := 40) (by omega) (by omega)).mp q; omega), show (8 : Int32) = nI 8 from rfl, nI_div (by omega) (by omega) (by omega), n1, sA_nI (by omega) (by omega), sA_nI (by omega) (by omega), nI_cl (by omega), nm_s, nm_s, show nI i + 1 = nI (i + 1) from nI_add i 1, nm_s, nm_s]
        by_cases c : i / 8 = ln.length
        · rw [if_pos (congrArg nI c), if_pos c]; rfl
        · rw [if_neg (fun q => c ((nI_eq_iff (by omega) (by omega)).mp q)), if_neg c]; rfl
      · rw [hset_at]
        by_cases c : x = i
        · rw [c, upd_at]
        · rw [upd_ne _ _ c]; exact f2 x (by omega)) (fun s hJ => by
      obtain ⟨g, e, f1, f2⟩ := hJ
      subst e
      refine ⟨g, ?_, f1, fun j d h1 h2 h3 => ?_⟩
      · show K_Lines_countWays_L2 N (nI m) (nI 40) g = _
        unfold K_Lines_countWays_L2
        rw [if_pos (by decide)]
      · have ej : j = ln.length := by omega
        rw [f2 _ (by omega), if_pos (by omega), ej, List.drop_length]
        rfl) (s0 := (0, h)) ⟨h, rfl, fun _ _ => rfl, fun x hx => absurd hx (Nat.not_lt_zero _)⟩ (N := N) (by omega)
  -- the places ahead of it, the last first
  obtain ⟨M, hM⟩ : ∃ M, M = 8 * ln.length := ⟨_, rfl⟩
  obtain ⟨t2, l2, f3, f4⟩ := loopN_fx (fun z_ : Int32 × Hp => K_Lines_countWays_L64 N (nI m) z_.1 z_.2) (fun j s => ∃ g, s = (iI ((M : Int) - 1 - (j : Int)), g) ∧ (∀ r, r ≠ 62 → g r = h r) ∧ ∀ j' d', M - j ≤ 8 * j' + d' → j' ≤ ln.length → d' < 8 → g 62 (8 * j' + d') = nI (wN (sR a) (ln.drop j') (mb (sR a) ln m j' d'))) M (fun t => (∀ r, r ≠ 62 → t r = h r) ∧ yT (sR a) ln m 0 t) (fun j s hj hJ => by
      obtain ⟨g, e, f1, f2⟩ := hJ
      subst e
      obtain ⟨x, hx⟩ : ∃ x, x = M - j - 1 := ⟨_, rfl⟩
      have e3 : iI ((M : Int) - 1 - (j : Int)) = nI x := by rw [nI_iI]; congr 1; omega
      obtain ⟨k1, k2⟩ := kp g f1
      have hk : x / 8 < ln.length := by omega
      have hd : x % 8 < 8 := Nat.mod_lt _ (by decide)
      obtain ⟨a1, a2, a3, a4⟩ := mb_ok hW hl (m := m) (k := x / 8) (d := x % 8) (by omega) hd
      have hT : yT (sR a) ln m (x / 8 + 1) g := fun j' d' h1 h2 h3 => f2 j' d' (by omega) h2 h3
      have ls : loopN (fun z_ : Int32 × Int32 => K_Lines_countWays_L97 N (nI m) (nI x) (nI (x / 8)) (nI (mb (sR a) ln m (x / 8) (x % 8))) z_.1 z_.2 g) N (0, 0) = some (nI (wN (sR a) (ln.drop (x / 8)) (mb (sR a) ln m (x / 8) (x % 8)))) := by
        rw [wN_sum hk]
        refine loopN_for _ (fun p => (nI (sumN (fun p => wY (sR a) ln (x / 8) (aft (sR a) 0 (mb (sR a) ln m (x / 8) (x % 8)) p)) p), nI p)) 16 _ (fun p hp => ?_) ?_ (by omega)
        · show K_Lines_countWays_L97 N (nI m) (nI x) (nI (x / 8)) (nI (mb (sR a) ln m (x / 8) (x % 8))) (nI _) (nI p) g = _
          unfold K_Lines_countWays_L97
          rw [if_neg (show ¬ (16 : Int32) ≤ nI p from fun q => by have := (nI_le_iff (a := 16) (by omega) (by omega)).mp q; omega), afterK hW k1.2.1 (by omega) k1.2.2 a2 hp, bd_s, waysBehindK hW hl k2 hk hd hT, bd_s, nI_add, nm_s, show nI p + 1 = nI (p + 1) from nI_add p 1, nm_s]
          rfl
        · show K_Lines_countWays_L97 N (nI m) (nI x) (nI (x / 8)) (nI (mb (sR a) ln m (x / 8) (x % 8))) (nI _) (nI 16) g = _
          unfold K_Lines_countWays_L97
          rw [if_pos (by decide)]
      refine ⟨(iI ((M : Int) - 1 - ((j + 1 : Nat) : Int)), hset g 62 x (nI (wN (sR a) (ln.drop (x / 8)) (mb (sR a) ln m (x / 8) (x % 8))))), ?_, _, rfl, fun r hr => (hset_ne _ _ _ hr).trans (f1 r hr), fun j' d' h1 h2 h3 => ?_⟩
      · show K_Lines_countWays_L64 N (nI m) (iI _) g = _
        unfold K_Lines_countWays_L64
        have m1 : nI x + (-1) = iI ((M : Int) - 1 - ((j + 1 : Nat) : Int)) := by
          rw [nI_iI, show (-1 : Int32) = iI (-1) from by decide, iI_add]; congr 1; omega
        rw [e3, if_neg (nI_not_neg (by omega)), show (8 : Int32) = nI 8 from rfl, nI_div (by omega) (by omega) (by omega), nm_s, nI_rem (by omega) (by omega) (by omega), behindK hW k1.2.1 hl k2 hm hk, bd_s, ls, bd_s, sA_nI (by omega) (by omega), nI_cl (by omega), nm_s, m1, nm_s]
      · by_cases c : 8 * j' + d' = x
        · have c1 : x / 8 = j' := by omega
          have c2 : x % 8 = d' := by omega
          rw [hset_at, c, upd_at, c1, c2]
        · rw [hset_at, upd_ne _ _ c]; exact f2 j' d' (by omega) h2 h3) (fun s hJ => by
      obtain ⟨g, e, f1, f2⟩ := hJ
      subst e
      refine ⟨g, ?_, f1, fun j' d' h1 h2 h3 => f2 j' d' (by omega) h2 h3⟩
      show K_Lines_countWays_L64 N (nI m) (iI _) g = _
      unfold K_Lines_countWays_L64
      rw [if_pos (show iI ((M : Int) - 1 - (M : Int)) < (0 : Int32) from (iI_lt_iff (b := 0) (by omega) (by omega) (by omega) (by omega)).mpr (by omega))]) (s0 := (nI M - 1, t1)) ⟨t1, by
      have : nI M - 1 = iI ((M : Int) - 1 - ((0 : Nat) : Int)) := by rw [nI_iI, show (1 : Int32) = iI 1 from rfl, iI_sub]; congr 1; omega
      rw [this], f1, fun j' d' h1 h2 h3 => f2 j' d' (by omega) h2 h3⟩ (N := N) (by omega)
  refine ⟨t2, ?_, f3, f4⟩
  unfold K_Lines_countWays
  have e1 : t1 60 4 * 8 = nI M := by rw [(kp t1 f1).2.1, show (8 : Int32) = nI 8 from rfl, nI_mul, hM, Nat.mul_comm]
  have e2 : (if (40 : Int32) < nI M then (40 : Int32) else nI M) = nI M := if_neg (fun q => by have := (nI_lt_iff (a := 40) (by omega) (by omega)).mp q; omega)
  have e3 : (if (0 : Int32) < nI M then nI M else (0 : Int32)) = nI M := by
    by_cases c : 0 < M
    · exact if_pos ((nI_lt_iff (a := 0) (by omega) (by omega)).mpr c)
    · rw [show M = 0 by omega]; decide
  rw [l1, bd_s, e1, e2, e3, nm_s, nm_s, l2, bd_s]
theorem firstPairK {k0 : Nat} {a : St} {h : Hp} (hv : VS k0 a) (N : Nat) (hN : 200 < N) (hR : cR (sR a) h) (hcN : cN (sN a) h) {m k d : Nat} (hk : k < (sN a).length) (hd : d < 8) (hT : yT (sR a) (sN a) m 0 h) (hp : 0 < wN (sR a) ((sN a).drop k) (mb (sR a) (sN a) m k d)) : K_Lines_firstPair N (nI k) (nI (mb (sR a) (sN a) m k d)) h = some (nI (gpk (sR a) (sN a) k (mb (sR a) (sN a) m k d))) := by
  have hW := hv.1
  have hl : lnk (sR a) (sN a) := hv.2.2.2.2.1
  have l4 := hl.1
  generalize sN a = ln at *
  obtain ⟨a1, a2, a3, a4⟩ := mb_ok hW hl (m := m) (k := k) (d := d) (by omega) hd
  have e : ln.drop k = ln.getD k 0 :: ln.drop (k + 1) := by
    rw [List.drop_eq_getElem_cons hk]
    congr 1
    rw [List.getD_eq_getElem?_getD, List.getElem?_eq_getElem hk]
    rfl
  rw [e] at hp
  have gk := gp_ok hp
  have body : ∀ p, p < 16 → K_Lines_firstPair_L3 N (nI k) (nI (mb (sR a) ln m k d)) (nI p) h = (if aft (sR a) 0 (mb (sR a) ln m k d) p % 384 / 8 = ln.getD k 0 ∧ 0 < wN (sR a) (ln.drop (k + 1)) (aft (sR a) 0 (mb (sR a) ln m k d) p) then some (.inr (.inl (nI p))) else some (.inl (nI (p + 1)))) := by
    intro p hp
    have wb := wN_b (ρ := sR a) l4 (k + 1) (aft (sR a) 0 (mb (sR a) ln m k d) p)
    unfold K_Lines_firstPair_L3
    rw [if_neg (show ¬ (16 : Int32) ≤ nI p from fun q => by have := (nI_le_iff (a := 16) (by omega) (by omega)).mp q; omega), afterK hW hR.2.1 (by omega) hR.2.2 a2 hp, bd_s, waysBehindK hW hl hcN hk hd (fun j d' h1 h2 h3 => hT j d' (Nat.zero_le _) h2 h3), bd_s, show nI p + 1 = nI (p + 1) from nI_add p 1, nm_s]
    unfold wY
    by_cases c : aft (sR a) 0 (mb (sR a) ln m k d) p % 384 / 8 = ln.getD k 0
    · rw [if_pos c]
      by_cases c2 : 0 < wN (sR a) (ln.drop (k + 1)) (aft (sR a) 0 (mb (sR a) ln m k d) p)
      · rw [if_neg (show ¬ nI (wN (sR a) (ln.drop (k + 1)) (aft (sR a) 0 (mb (sR a) ln m k d) p)) ≤ (0 : Int32) from fun q => by have := (nI_le_iff (b := 0) (by omega) (by omega)).mp q; omega), if_pos ⟨c, c2⟩]
      · rw [if_pos (show nI (wN (sR a) (ln.drop (k + 1)) (aft (sR a) 0 (mb (sR a) ln m k d) p)) ≤ (0 : Int32) from (nI_le_iff (b := 0) (by omega) (by omega)).mpr (by omega)), if_neg (fun q => c2 q.2)]
    · rw [if_neg c, if_pos (by decide), if_neg (fun q => c q.1)]
  have l : loopN (fun z_ : Int32 => K_Lines_firstPair_L3 N (nI k) (nI (mb (sR a) ln m k d)) z_ h) N (nI 0) = some (.inl (nI (gpk (sR a) ln k (mb (sR a) ln m k d)))) := by
    refine loopN_for (fun z_ : Int32 => K_Lines_firstPair_L3 N (nI k) (nI (mb (sR a) ln m k d)) z_ h) (fun p => nI p) (gpk (sR a) ln k (mb (sR a) ln m k d)) _ (fun p hp => ?_) ?_ (by have := gk.1; unfold gpk; omega)
    · show K_Lines_firstPair_L3 N (nI k) (nI (mb (sR a) ln m k d)) (nI p) h = _
      rw [body p (by have := gk.1; unfold gpk at hp; omega), if_neg (gk.2.2.2 p hp)]
    · show K_Lines_firstPair_L3 N (nI k) (nI (mb (sR a) ln m k d)) (nI _) h = _
      have b := body _ gk.1
      rw [if_pos ⟨gk.2.1, gk.2.2.1⟩] at b
      exact b
  unfold K_Lines_firstPair
  rw [show loopN (fun z_ : Int32 => K_Lines_firstPair_L3 N (nI k) (nI (mb (sR a) ln m k d)) z_ h) N 0 = _ from l, bd_s]
  rfl
/-- the moments of the first row are such -/
theorem gmN_mb {ρ : Rv} (hW : WF ρ) {ln : List Nat} (hl : lnk ρ ln) {m : Nat} (hm : m / 384 < tmv ρ) (hw : 0 < wN ρ ln m) : ∀ i, i ≤ ln.length → gmN ρ ln m i = mb ρ ln m i (gmN ρ ln m i % 8)
  | 0, _ => (mb_0 hm).symm
  | i + 1, hi => by
    have ih := gmN_mb hW hl hm hw i (by omega)
    have pos := (gR_dig ρ ln m i hl.1 hi hw).2
    have e : ln.drop i = ln.getD i 0 :: ln.drop (i + 1) := by
      rw [List.drop_eq_getElem_cons hi]
      congr 1
      rw [List.getD_eq_getElem?_getD, List.getElem?_eq_getElem hi]
      rfl
    rw [e] at pos
    have gk := gp_ok pos
    show aft ρ 0 (gmN ρ ln m i) (gpk ρ ln i (gmN ρ ln m i)) = mb ρ ln m (i + 1) (aft ρ 0 (gmN ρ ln m i) (gpk ρ ln i (gmN ρ ln m i)) % 8)
    have g2 : aft ρ 0 (gmN ρ ln m i) (gpk ρ ln i (gmN ρ ln m i)) % 384 / 8 = ln.getD i 0 := gk.2.1
    rw [ih] at g2 ⊢
    exact mb_next hW hl hi (Nat.mod_lt _ (by decide)) g2
theorem firstAtK {k0 : Nat} {a : St} {h : Hp} (hk0 : k0 ≤ 64) (hv : VS k0 a) (N : Nat) (hN : 200 < N) (hR : cR (sR a) h) (hcN : cN (sN a) h) (w : rW (sR a) ≠ 0) (hT : yT (sR a) (sN a) (mo (sR a) (sB a)) 0 h) (x : Int32) : K_Lines_firstPairAt N x (nI (mo (sR a) (sB a))) h = some (if 0 ≤ x.toInt ∧ x.toInt < (sN a).length ∧ 0 < wN (sR a) (sN a) (mo (sR a) (sB a)) then nI (prw (gR (sR a) (sN a) (mo (sR a) (sB a))) (sN a).length x.toInt.toNat) else -1) := by
  have hW := hv.1
  have hl : lnk (sR a) (sN a) := hv.2.2.2.2.1
  have l4 := hl.1
  have mp := mo_parts hW (b := sB a) hv.2.2.1.1.1
  have c1 : x < 0 ↔ x.toInt < 0 := Int32.lt_iff_toInt_lt
  have c2 : nI (sN a).length ≤ x ↔ ((sN a).length : Int) ≤ x.toInt := by rw [Int32.le_iff_toInt_le, nI_toInt (by omega)]
  have mt : mo (sR a) (sB a) / 384 < tmv (sR a) := mp.2.2.1
  have ml : mo (sR a) (sB a) < 3456 := mp.2.2.2.2.2
  generalize mo (sR a) (sB a) = m at *
  have w0 : h 62 (8 * 0 + m % 8) = nI (wN (sR a) (sN a) m) := by
    have := hT 0 (m % 8) (Nat.le_refl _) (Nat.zero_le _) (Nat.mod_lt _ (by decide))
    rw [mb_0 mt] at this
    exact this
  have wb := wN_b (ρ := sR a) l4 0 m
  have wb : wN (sR a) (sN a) m ≤ 65536 := wb
  unfold K_Lines_firstPairAt
  by_cases d1 : x.toInt < 0
  · rw [if_pos (c1.mpr d1), if_neg (by omega)]
  · rw [if_neg (fun q => d1 (c1.mp q)), hcN.1]
    by_cases d2 : ((sN a).length : Int) ≤ x.toInt
    · rw [if_pos (c2.mpr d2), if_neg (by omega)]
    · rw [if_neg (fun q => d2 (c2.mp q)), show (0 : Int32) = nI 0 from rfl, waysFromK (by omega) (by omega), bd_s, w0]
      by_cases d3 : wN (sR a) (sN a) m = 0
      · rw [if_pos (congrArg nI d3), if_neg (by omega)]
      · obtain ⟨i, hi, ei⟩ := nat_of (x := x) (n := 3) (by omega)
        have ti : x.toInt.toNat = i := by rw [ei, nI_toInt (by omega)]; omega
        have hi2 : i < (sN a).length := by omega
        have hw : 0 < wN (sR a) (sN a) m := by omega
        have gb : ∀ j, j ≤ (sN a).length → gmN (sR a) (sN a) m j / 384 < tmv (sR a) ∧ gmN (sR a) (sN a) m j < 3456 := fun j hj => by
          have e := gmN_mb hW hl mt hw j hj
          have o := mb_ok hW hl (m := m) (k := j) (d := gmN (sR a) (sN a) m j % 8) hj (Nat.mod_lt _ (by decide))
          rw [← e] at o
          exact ⟨o.2.1, o.2.2.1⟩
        have fp : ∀ j, j < (sN a).length → K_Lines_firstPair N (nI j) (nI (gmN (sR a) (sN a) m j)) h = some (nI (gpk (sR a) (sN a) j (gmN (sR a) (sN a) m j))) := fun j hj => by
          have e := gmN_mb hW hl mt hw j (by omega)
          have pos := (gR_dig (sR a) (sN a) m j l4 hj hw).2
          have := firstPairK hv N hN hR hcN (m := m) (k := j) (d := gmN (sR a) (sN a) m j % 8) hj (Nat.mod_lt _ (by decide)) hT (by rw [← e]; exact pos)
          rw [← e] at this
          exact this
        have gl : ∀ j, j < (sN a).length → gpk (sR a) (sN a) j (gmN (sR a) (sN a) m j) < 16 := fun j hj => by
          rw [← (gR_dig (sR a) (sN a) m j l4 hj hw).1]
          exact prw_lt _ _ _
        have l : loopN (fun z_ : Int32 × Int32 => K_Lines_firstPairAt_L29 N x z_.1 z_.2 h) N (nI m, nI 0) = some (nI (gmN (sR a) (sN a) m i)) := by
          refine loopN_for _ (fun j => (nI (gmN (sR a) (sN a) m j), nI j)) i _ (fun j hj => ?_) ?_ (by omega)
          · show K_Lines_firstPairAt_L29 N x (nI _) (nI j) h = _
            unfold K_Lines_firstPairAt_L29
            rw [ei, if_neg (fun q => by have := (nI_le_iff (by omega) (by omega)).mp q; omega), fp j (by omega), bd_s, afterK hW hR.2.1 (by omega) hR.2.2 (gb j (by omega)).1 (gl j (by omega)), bd_s, show nI j + 1 = nI (j + 1) from nI_add j 1, nm_s]
            rfl
          · show K_Lines_firstPairAt_L29 N x (nI _) (nI i) h = _
            unfold K_Lines_firstPairAt_L29
            rw [ei, if_pos ((nI_le_iff (by omega) (by omega)).mpr (Nat.le_refl _))]
        rw [if_neg (show ¬ nI (wN (sR a) (sN a) m) = nI 0 from fun q => d3 ((nI_eq_iff (by omega) (by omega)).mp q)), l, bd_s, show K_Lines_firstPair N x (nI (gmN (sR a) (sN a) m i)) h = some (nI (gpk (sR a) (sN a) i (gmN (sR a) (sN a) m i))) from (by rw [ei]; exact fp i hi2), bd_s, if_pos ⟨by omega, by omega, hw⟩, ti, (gR_dig (sR a) (sN a) m i l4 hi2 hw).1]
