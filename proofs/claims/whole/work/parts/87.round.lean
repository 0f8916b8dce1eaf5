/-! round -/
/-- more places than numbers: two are alike -/
theorem pigeon : ∀ (n : Nat) (f : Nat → Nat), (∀ i, i ≤ n → f i < n) → ∃ i j, i < j ∧ j ≤ n ∧ f i = f j
  | 0, f, h => absurd (h 0 (Nat.le_refl 0)) (Nat.not_lt_zero _)
  | n + 1, f, h => by
    by_cases c : ∃ j, j ≤ n ∧ f j = f (n + 1)
    · obtain ⟨j, h1, h2⟩ := c
      exact ⟨j, n + 1, by omega, Nat.le_refl _, h2⟩
    · have hn : ∀ j, j ≤ n → f j ≠ f (n + 1) := fun j hj e => c ⟨j, hj, e⟩
      obtain ⟨i, j, h1, h2, h3⟩ := pigeon n (fun i => if f i = n then f (n + 1) else f i) (fun i hi => by
        have a := h i (by omega)
        have b := h (n + 1) (Nat.le_refl _)
        have d := hn i hi
        show (if f i = n then f (n + 1) else f i) < n
        split <;> omega)
      have h3 : (if f i = n then f (n + 1) else f i) = (if f j = n then f (n + 1) else f j) := h3
      refine ⟨i, j, h1, by omega, ?_⟩
      have d1 := hn i (by omega)
      have d2 := hn j h2
      by_cases e1 : f i = n
      · by_cases e2 : f j = n
        · omega
        · rw [if_pos e1, if_neg e2] at h3
          exact absurd h3.symm d2
      · by_cases e2 : f j = n
        · rw [if_neg e1, if_pos e2] at h3
          exact absurd h3 d1
        · rw [if_neg e1, if_neg e2] at h3
          exact h3
/-- the lead and the loop of a row of numbers -/
theorem lead_loop (f : Nat → Nat) (K : Nat) (hB : ∀ i, f i < K) : ∃ u v, 1 ≤ v ∧ u + v ≤ K ∧ f (u + v) = f u ∧ ∀ i j, i < j → j < u + v → f i ≠ f j := by
  have key : ∀ n, (∃ u v, 1 ≤ v ∧ u + v ≤ n ∧ f (u + v) = f u ∧ ∀ i j, i < j → j < u + v → f i ≠ f j) ∨ (∀ i j, i < j → j ≤ n → f i ≠ f j) := by
    intro n
    induction n with
    | zero => exact .inr (fun i j h1 h2 => by omega)
    | succ n ih =>
      rcases ih with ⟨u, v, h1, h2, h3⟩ | hd
      · exact .inl ⟨u, v, h1, by omega, h3⟩
      · by_cases c : ∃ i, i ≤ n ∧ f i = f (n + 1)
        · obtain ⟨i, hi, e⟩ := c
          refine .inl ⟨i, n + 1 - i, by omega, by omega, ?_, fun i' j' q1 q2 => hd i' j' q1 (by omega)⟩
          rw [show i + (n + 1 - i) = n + 1 by omega]
          exact e.symm
        · refine .inr (fun i j q1 q2 => ?_)
          by_cases e : j = n + 1
          · subst e
            exact fun q => c ⟨i, by omega, q⟩
          · exact hd i j q1 (by omega)
  rcases key K with h | hd
  · exact h
  · obtain ⟨i, j, h1, h2, h3⟩ := pigeon K f (fun i _ => hB i)
    exact absurd h3 (hd i j h1 h2)
theorem row_on {f : Nat → Nat} (hS : ∀ i j, f i = f j → f (i + 1) = f (j + 1)) {i j : Nat} (e : f i = f j) : ∀ d, f (i + d) = f (j + d)
  | 0 => e
  | d + 1 => hS _ _ (row_on hS e d)
/-- what is met twice is on the loop, and the loop is the least way round -/
theorem loop_of {f : Nat → Nat} (hS : ∀ i j, f i = f j → f (i + 1) = f (j + 1)) {u v : Nat} (h1 : 1 ≤ v) (h2 : f (u + v) = f u) (h3 : ∀ i j, i < j → j < u + v → f i ≠ f j) {w l : Nat} (hl : 1 ≤ l) (e : f w = f (w + l)) : u ≤ w ∧ v ≤ l := by
  have red : ∀ n, u ≤ n → ∃ i, u ≤ i ∧ i < u + v ∧ f n = f i := by
    intro n
    induction n using Nat.strongRecOn with
    | ind n ih =>
      intro hn
      by_cases c : n < u + v
      · exact ⟨n, hn, c, rfl⟩
      · obtain ⟨i, a1, a2, a3⟩ := ih (n - v) (by omega) (by omega)
        refine ⟨i, a1, a2, ?_⟩
        rw [← a3]
        have := row_on hS h2 (n - v - u)
        rw [show u + v + (n - v - u) = n by omega, show u + (n - v - u) = n - v by omega] at this
        exact this
  have hw : u ≤ w := by
    by_cases c : u ≤ w
    · exact c
    · exfalso
      by_cases c2 : w + l < u + v
      · exact h3 w (w + l) (by omega) c2 e
      · obtain ⟨i, a1, a2, a3⟩ := red (w + l) (by omega)
        exact h3 w i (by omega) a2 (e.trans a3)
  refine ⟨hw, ?_⟩
  by_cases c : v ≤ l
  · exact c
  · exfalso
    have per : ∀ q, f (u + v * q) = f u := by
      intro q
      induction q with
      | zero => rfl
      | succ q ih =>
        have := row_on hS h2 (v * q)
        rw [show u + v + v * q = u + v * (q + 1) by rw [Nat.mul_succ]; omega] at this
        exact this.trans ih
    have le : w ≤ v * w := Nat.le_mul_of_pos_left w h1
    have a := row_on hS e (u + v * w - w)
    rw [show w + (u + v * w - w) = u + v * w by omega, show w + l + (u + v * w - w) = u + v * w + l by omega, per w] at a
    have b := row_on hS (per w) l
    exact h3 u (u + l) (by omega) (by omega) (a.trans b)
def xq (ρ : Rv) (z : Nat × Nat) (i : Nat) : Nat := 16 * (muN ρ z i).1 + (muN ρ z i).2
theorem xq_S {ρ : Rv} (hW : WF ρ) {z : Nat × Nat} (hz : okMu ρ z) (i j : Nat) (e : xq ρ z i = xq ρ z j) : xq ρ z (i + 1) = xq ρ z (j + 1) := by
  have a := (muN_ok hW hz i).2
  have b := (muN_ok hW hz j).2
  have e : 16 * (muN ρ z i).1 + (muN ρ z i).2 = 16 * (muN ρ z j).1 + (muN ρ z j).2 := e
  have e1 : muN ρ z i = muN ρ z j := Prod.ext (by omega) (by omega)
  show 16 * (muS ρ (muN ρ z i)).1 + (muS ρ (muN ρ z i)).2 = 16 * (muS ρ (muN ρ z j)).1 + (muS ρ (muN ρ z j)).2
  rw [e1]
theorem xq_B {ρ : Rv} (hW : WF ρ) {z : Nat × Nat} (hz : okMu ρ z) (i : Nat) : xq ρ z i < 55296 := by
  have a := muN_ok hW hz i
  have b := okM_lt hW a.1
  have c := a.2
  unfold xq
  omega
theorem silentX {ρ : Rv} {h : Hp} (hW : WF ρ) (hR : cR ρ h) {z : Nat × Nat} (hz : okMu ρ z) (i : Nat) : K_C_afterSilently (nI (xq ρ z i)) h = some (nI (xq ρ z (i + 1))) := silentK hW hR (muN_ok hW hz i)
theorem loopFromK {ρ : Rv} {h : Hp} (hW : WF ρ) (hR : cR ρ h) {z : Nat × Nat} (hz : okMu ρ z) (N : Nat) (hN : 1000000 < N) {u v : Nat} (h1 : 1 ≤ v) (hK : u + v ≤ 55296) (h2 : xq ρ z (u + v) = xq ρ z u) (h3 : ∀ i j, i < j → j < u + v → xq ρ z i ≠ xq ρ z j) : K_C_loopFrom N (nI (xq ρ z 0)) h = some (nI v) := by
  have hS := xq_S hW hz
  have hB := xq_B hW hz
  have lp := @loop_of (xq ρ z) hS u v h1 h2 h3
  obtain ⟨t, l1, l2⟩ := loopN_inv (fun z_ : Int32 × Int32 × Int32 × Int32 × Int32 => K_C_loopFrom_L17 N z_.1 z_.2.1 z_.2.2.1 z_.2.2.2.1 z_.2.2.2.2 h) (fun s => ∃ w l r, s = (nI (xq ρ z w), nI (xq ρ z (w + l)), nI l, nI r, nI (w + l - 1)) ∧ 1 ≤ l ∧ l ≤ r ∧ w + 1 = r ∧ r < 110594 ∧ ∀ l', 1 ≤ l' → l' < l → xq ρ z w ≠ xq ρ z (w + l')) (fun s => 1000000 - s.2.2.2.2.toNatClampNeg) (fun t => t = nI v) (fun s hI => by
      obtain ⟨w, l, r, e, q1, q2, q3, q4, q5⟩ := hI
      subst e
      have B1 := hB w
      have B2 := hB (w + l)
      show (∃ s', K_C_loopFrom_L17 N (nI (xq ρ z w)) (nI (xq ρ z (w + l))) (nI l) (nI r) (nI (w + l - 1)) h = some (.inl s') ∧ _) ∨ (∃ t, K_C_loopFrom_L17 N (nI (xq ρ z w)) (nI (xq ρ z (w + l))) (nI l) (nI r) (nI (w + l - 1)) h = some (.inr t) ∧ t = nI v)
      unfold K_C_loopFrom_L17 K_C_loopFrom_J48
      rw [if_neg (fun q => by have := (nI_le_iff (a := 1000000) (by omega) (by omega)).mp q; omega)]
      by_cases c : xq ρ z w = xq ρ z (w + l)
      · refine .inr ⟨nI l, by rw [if_pos (congrArg nI c)], ?_⟩
        obtain ⟨a1, a2⟩ := lp q1 c
        by_cases c2 : v = l
        · rw [c2]
        · exfalso
          refine q5 v h1 (by omega) ?_
          have := row_on hS h2 (w - u)
          rw [show u + v + (w - u) = w + v by omega, show u + (w - u) = w by omega] at this
          exact this.symm
      · left
        rw [if_neg (fun q => c ((nI_eq_iff (by omega) (by omega)).mp q)), silentX hW hR hz, bd_s, show (1 : Int32) = nI 1 from rfl, nI_add, nI_add, nm_s]
        by_cases c2 : l = r
        · subst c2
          have lt : l < 55297 := by
            by_cases c3 : l < 55297
            · exact c3
            · exfalso
              have := row_on hS h2 (w - u)
              rw [show u + v + (w - u) = w + v by omega, show u + (w - u) = w by omega] at this
              by_cases c4 : v = l
              · exact c (by rw [← c4]; exact this.symm)
              · exact q5 v h1 (by omega) this.symm
          refine ⟨(nI (xq ρ z (w + l)), nI (xq ρ z (w + l + 1)), nI 1, nI (2 * l), nI (w + l)), ?_, ⟨w + l, 1, 2 * l, by rw [show w + l + 1 - 1 = w + l by omega], by omega, by omega, by omega, by omega, fun l' a1 a2 => by omega⟩, ?_⟩
          · rw [if_pos rfl, show (2 : Int32) = nI 2 from rfl, nI_mul, bd_s, show (0 : Int32) = nI 0 from rfl, nI_add, nm_s, nm_s, show w + l - 1 + 1 = w + l by omega, show l * 2 = 2 * l by omega]
          · show 1000000 - (nI (w + l)).toNatClampNeg < 1000000 - (nI (w + l - 1)).toNatClampNeg
            rw [nI_cl (by omega), nI_cl (by omega)]
            omega
        · refine ⟨(nI (xq ρ z w), nI (xq ρ z (w + l + 1)), nI (l + 1), nI r, nI (w + l)), ?_, ⟨w, l + 1, r, by rw [show w + (l + 1) - 1 = w + l by omega]; rfl, by omega, by omega, q3, q4, fun l' a1 a2 => ?_⟩, ?_⟩
          · rw [if_neg (fun q => c2 ((nI_eq_iff (by omega) (by omega)).mp q)), nm_s, show w + l - 1 + 1 = w + l by omega, nm_s]
          · by_cases c3 : l' = l
            · rw [c3]; exact c
            · exact q5 l' a1 (by omega)
          · show 1000000 - (nI (w + l)).toNatClampNeg < 1000000 - (nI (w + l - 1)).toNatClampNeg
            rw [nI_cl (by omega), nI_cl (by omega)]
            omega) N (nI (xq ρ z 0), nI (xq ρ z 1), 1, 1, 0) ⟨0, 1, 1, rfl, by omega, by omega, rfl, by omega, fun l' a1 a2 => by omega⟩ (by show 1000000 - _ < N; omega)
  subst l2
  unfold K_C_loopFrom
  rw [silentX hW hR hz, bd_s, show loopN (fun z_ : Int32 × Int32 × Int32 × Int32 × Int32 => K_C_loopFrom_L17 N z_.1 z_.2.1 z_.2.2.1 z_.2.2.2.1 z_.2.2.2.2 h) N (nI (xq ρ z 0), nI (xq ρ z (0 + 1)), 1, 1, 0) = some (nI v) from l1, bd_s]
theorem leadFromK {ρ : Rv} {h : Hp} (hW : WF ρ) (hR : cR ρ h) {z : Nat × Nat} (hz : okMu ρ z) (N : Nat) (hN : 1000000 < N) {u v : Nat} (h1 : 1 ≤ v) (hK : u + v ≤ 55296) (h2 : xq ρ z (u + v) = xq ρ z u) (h3 : ∀ i j, i < j → j < u + v → xq ρ z i ≠ xq ρ z j) : K_C_leadFrom N (nI (xq ρ z 0)) (nI v) h = some (nI u) := by
  have hS := xq_S hW hz
  have hB := xq_B hW hz
  have lp := @loop_of (xq ρ z) hS u v h1 h2 h3
  have l1 : loopN (fun z_ : Int32 × Int32 => K_C_leadFrom_L8 N (nI v) (nI (xq ρ z 0)) z_.1 z_.2 h) N (nI (xq ρ z 0), 0) = some (nI (xq ρ z v)) := by
    refine loopN_for _ (fun i => (nI (xq ρ z i), nI i)) v _ (fun i hi => ?_) ?_ (by omega)
    · show K_C_leadFrom_L8 N (nI v) (nI (xq ρ z 0)) (nI (xq ρ z i)) (nI i) h = _
      unfold K_C_leadFrom_L8
      rw [if_neg (fun q => by have := (nI_le_iff (by omega) (by omega)).mp q; omega), silentX hW hR hz, bd_s, show (1 : Int32) = nI 1 from rfl, nI_add, nm_s]
    · show K_C_leadFrom_L8 N (nI v) (nI (xq ρ z 0)) (nI (xq ρ z v)) (nI v) h = _
      unfold K_C_leadFrom_L8
      rw [if_pos ((nI_le_iff (by omega) (by omega)).mpr (Nat.le_refl _))]
  have l2 : loopN (fun z_ : Int32 × Int32 × Int32 => K_C_leadFrom_L31 N z_.1 z_.2.1 z_.2.2 h) N (nI (xq ρ z 0), nI (xq ρ z v), 0) = some (nI u) := by
    have := loopN_for (fun z_ : Int32 × Int32 × Int32 => K_C_leadFrom_L31 N z_.1 z_.2.1 z_.2.2 h) (fun i => (nI (xq ρ z i), nI (xq ρ z (v + i)), nI i)) u (nI u) (fun i hi => by
      show K_C_leadFrom_L31 N (nI (xq ρ z i)) (nI (xq ρ z (v + i))) (nI i) h = _
      have B1 := hB i
      have B2 := hB (v + i)
      unfold K_C_leadFrom_L31
      rw [if_neg (fun q => by have := (nI_le_iff (a := 1000000) (by omega) (by omega)).mp q; omega), if_neg (fun q => by
        have e := (nI_eq_iff (by omega) (by omega)).mp q
        have := lp h1 (w := i) (by rw [Nat.add_comm i v]; exact e)
        omega), silentX hW hR hz, bd_s, silentX hW hR hz, bd_s, show (1 : Int32) = nI 1 from rfl, nI_add, nm_s]
      rfl) (by
      show K_C_leadFrom_L31 N (nI (xq ρ z u)) (nI (xq ρ z (v + u))) (nI u) h = _
      unfold K_C_leadFrom_L31
      rw [if_neg (fun q => by have := (nI_le_iff (a := 1000000) (by omega) (by omega)).mp q; omega), if_pos (by rw [Nat.add_comm v u, h2])]) (N := N) (by omega)
    exact this
  unfold K_C_leadFrom
  rw [l1, bd_s, l2, bd_s]
theorem statesM {a : St} {h g : Hp} (hW : WF (sR a)) (hM : IM a h) (e : sameM h g) : K_M_states g = some (nI (rW (sR a) * rH (sR a) * 8 * tmv (sR a))) := by
  obtain ⟨q1, q2, q3⟩ := IM_keep hM e
  unfold K_M_states K_M_squares
  rw [gA_lit (x := 0) (i := 0) rfl (by omega) (by omega), gA_lit (x := 0 + 1) (i := 1) (by decide) (by omega) (by omega), q2.1, q2.2.1, bd_s, timesM hW q2, bd_s, show (8 : Int32) = nI 8 from rfl, nI_mul, nI_mul, nI_mul]
theorem states_b {ρ : Rv} (hW : WF ρ) : rW ρ * rH ρ * 8 * tmv ρ ≤ 3456 := by
  have a := WH_b hW
  have b := tmv_b hW
  calc rW ρ * rH ρ * 8 * tmv ρ ≤ 48 * 8 * 9 := Nat.mul_le_mul (Nat.mul_le_mul_right 8 a) b.2
    _ = 3456 := rfl
theorem eM_lt {ρ : Rv} (hW : WF ρ) {m : Nat} (hm : okM ρ m) : eM ρ m < rW ρ * rH ρ * 8 * tmv ρ := (eM_parts hW hm.1 (okS_in hW hm.2)).2.2.2.2
theorem eM_inj {ρ : Rv} (hW : WF ρ) {m m' : Nat} (hm : okM ρ m) (hm' : okM ρ m') (e : eM ρ m = eM ρ m') : m = m' := by
  have s1 := okS_in hW hm.2
  have s2 := okS_in hW hm'.2
  obtain ⟨-, a2, a3, a4, -⟩ := eM_parts hW hm.1 s1
  obtain ⟨-, b2, b3, b4, -⟩ := eM_parts hW hm'.1 s2
  rw [e] at a2 a3 a4
  have c := cM_inj hW s1 s2 (a3.symm.trans b3)
  omega
def xe (ρ : Rv) (z : Nat × Nat) (i : Nat) : Nat := 16 * eM ρ (muN ρ z i).1 + (muN ρ z i).2
theorem xe_iff {ρ : Rv} (hW : WF ρ) {z : Nat × Nat} (hz : okMu ρ z) (i j : Nat) : xe ρ z i = xe ρ z j ↔ xq ρ z i = xq ρ z j := by
  have a := muN_ok hW hz i
  have b := muN_ok hW hz j
  have a2 := a.2
  have b2 := b.2
  unfold xe xq
  constructor
  · intro e
    have := eM_inj hW a.1 b.1 (by omega)
    omega
  · intro e
    have e1 : (muN ρ z i).1 = (muN ρ z j).1 := by omega
    rw [e1]
    omega
theorem MO_round_ok (N : Nat) (hN : 1000000 < N) : MO_round N Inv := by
  intro k b0 b1 h x c hk H
  have H0 := H
  obtain ⟨a, hv, hC, hM, h4, h5⟩ := H
  have hW := hv.1
  have ex : ∀ v : Int32, K_C_round N x c h = some v → K_M_round N x c h = some (v, h) → ∃ (r : Int32) (h2 : Hp), K_C_round N x c h = some r ∧ K_M_round N x c h = some (r, h2) ∧ Inv (k + 1) b0 b1 (mx lM h2 h) := fun v e1 e2 => ⟨v, h, e1, e2, Inv_M (sameM_rf h) H0⟩
  by_cases cx : 0 ≤ x.toInt ∧ x.toInt ≤ 15
  · by_cases cc : 0 ≤ c.toInt ∧ c.toInt ≤ 1
    · by_cases w : rW (sR a) = 0
      · refine ex (-1000000003) ?_ ?_
        · unfold K_C_round
          rw [out15, bd_s, if_pos cx, if_pos rfl, out1, bd_s, if_pos cc, if_pos rfl, noSquaresK hW hC.2.2.1.1, bd_s, if_pos w, if_neg (by decide)]
        · unfold K_M_round
          rw [in15, bd_s, if_pos cx, if_neg (by decide), in1, bd_s, if_pos cc, if_neg (by decide), isNoneM hW hM.1, bd_s, if_pos w, if_neg (by decide)]
      · obtain ⟨p, hp, ep⟩ := nat_of (n := 15) cx
        have hz : okMu (sR a) (mo (sR a) (sB a), p) := ⟨mo_ok hW hv.2.2.1.1 w, (by omega : p < 16)⟩
        have e12 : hset h 100 12 0 = h := hset_id hM.2.1
        obtain ⟨u, v, g1, g2, g3, g4⟩ := lead_loop (xq (sR a) (mo (sR a) (sB a), p)) 55296 (xq_B hW hz)
        have kl := loopFromK hW hC.2.2.1 hz N hN g1 g2 g3 g4
        have kd := leadFromK hW hC.2.2.1 hz N hN g1 g2 g3 g4
        have kC : K_C_round N x c h = some (if c = 0 then nI u else nI v) := by
          unfold K_C_round
          rw [out15, bd_s, if_pos cx, if_pos rfl, out1, bd_s, if_pos cc, if_pos rfl, noSquaresK hW hC.2.2.1.1, bd_s, if_neg w, if_pos rfl, momentK (by omega) hv hC, bd_s, ep, show (16 : Int32) = nI 16 from rfl, nI_mul, nI_add, nm_s, Nat.mul_comm]
          have kl : K_C_loopFrom N (nI (16 * mo (sR a) (sB a) + p)) h = some (nI v) := kl
          have kd : K_C_leadFrom N (nI (16 * mo (sR a) (sB a) + p)) (nI v) h = some (nI u) := kd
          rw [kl, bd_s, kd, bd_s]
          by_cases c0 : c = 0
          · rw [if_pos c0, if_pos c0]
          · rw [if_neg c0, if_neg c0]
        have sb := states_b hW
        generalize hS : rW (sR a) * rH (sR a) * 8 * tmv (sR a) = S at sb
        have fill : ∃ t, loopN (fun z_ : Int32 × Hp => K_M_round_L42 N x c z_.1 z_.2) N (0, h) = some t ∧ (sameM h t ∧ ∀ y, y < 16 * S → t 109 y = -1) := by
          refine loopN_fx _ (fun i s => s.1 = nI i ∧ sameM h s.2 ∧ ∀ y, y < i → s.2 109 y = -1) (16 * S) _ (fun i s hi hJ => ?_) (fun s hJ => ?_) ⟨rfl, sameM_rf h, fun y hy => absurd hy (Nat.not_lt_zero _)⟩ (by omega)
          · obtain ⟨x1, g⟩ := s
            obtain ⟨e1, e2, e3⟩ := hJ
            have e1 : x1 = nI i := e1
            have e2 : sameM h g := e2
            have e3 : ∀ y, y < i → g 109 y = -1 := e3
            refine ⟨(nI (i + 1), hset g 109 i (-1)), ?_, rfl, sameM_tr e2 ⟨fun r hr => hset_ne _ _ _ (fun q => by subst q; revert hr; decide), fun f _ => by show hset g 109 i (-1) 100 f = _; rw [hset_ne _ _ _ (by decide)]⟩, fun y hy => ?_⟩
            · show K_M_round_L42 N x c x1 g = _
              unfold K_M_round_L42
              rw [statesM hW hM e2, bd_s, hS, e1, show (16 : Int32) = nI 16 from rfl, nI_mul, if_neg (fun q => by have := (nI_le_iff (by omega) (by omega)).mp q; omega), sA_nI (by omega) (by omega), nI_cl (by omega), nm_s, show (1 : Int32) = nI 1 from rfl, nI_add, nm_s]
            · show hset g 109 i (-1) 109 y = -1
              rw [hset_at]
              by_cases c : y = i
              · rw [c, upd_at]
              · rw [upd_ne _ _ c]; exact e3 y (by omega)
          · obtain ⟨x1, g⟩ := s
            obtain ⟨e1, e2, e3⟩ := hJ
            have e1 : x1 = nI (16 * S) := e1
            have e2 : sameM h g := e2
            refine ⟨g, ?_, e2, e3⟩
            show K_M_round_L42 N x c x1 g = _
            unfold K_M_round_L42
            rw [statesM hW hM e2, bd_s, hS, e1, show (16 : Int32) = nI 16 from rfl, nI_mul, if_pos ((nI_le_iff (by omega) (by omega)).mpr (Nat.le_refl _))]
        obtain ⟨g0, f1, f2, f3⟩ := fill
        have hxe : ∀ i, xe (sR a) (mo (sR a) (sB a), p) i < 16 * S := fun i => by
          have o := muN_ok hW hz i
          have l := eM_lt hW o.1
          have o2 := o.2
          unfold xe
          rw [hS] at l
          omega
        have run : ∃ t, loopN (fun z_ : Int32 × Int32 × Hp => K_M_round_L79 N c z_.1 z_.2.1 z_.2.2) N (nI (xe (sR a) (mo (sR a) (sB a), p) 0), 0, g0) = some t ∧ (t.1 = nI (xe (sR a) (mo (sR a) (sB a), p) (u + v)) ∧ t.2.1 = nI (u + v) ∧ sameM h t.2.2 ∧ t.2.2 109 (xe (sR a) (mo (sR a) (sB a), p) (u + v)) = nI u) := by
          refine loopN_fx _ (fun i s => s.1 = nI (xe (sR a) (mo (sR a) (sB a), p) i) ∧ s.2.1 = nI i ∧ sameM h s.2.2 ∧ (∀ j, j < i → s.2.2 109 (xe (sR a) (mo (sR a) (sB a), p) j) = nI j) ∧ ∀ y, y < 16 * S → (∀ j, j < i → xe (sR a) (mo (sR a) (sB a), p) j ≠ y) → s.2.2 109 y = -1) (u + v) _ (fun i s hi hJ => ?_) (fun s hJ => ?_) ⟨rfl, rfl, f2, fun j hj => absurd hj (Nat.not_lt_zero _), fun y hy _ => f3 y hy⟩ (by omega)
          · obtain ⟨x1, x2, g⟩ := s
            obtain ⟨e1, e2, e3, e4, e5⟩ := hJ
            have e1 : x1 = nI (xe (sR a) (mo (sR a) (sB a), p) i) := e1
            have e2 : x2 = nI i := e2
            have e3 : sameM h g := e3
            have e4 : ∀ j, j < i → g 109 (xe (sR a) (mo (sR a) (sB a), p) j) = nI j := e4
            have e5 : ∀ y, y < 16 * S → (∀ j, j < i → xe (sR a) (mo (sR a) (sB a), p) j ≠ y) → g 109 y = -1 := e5
            have hd : ∀ j, j < i → xe (sR a) (mo (sR a) (sB a), p) j ≠ xe (sR a) (mo (sR a) (sB a), p) i := fun j hj q => g4 j i hj hi ((xe_iff hW hz j i).mp q)
            have xi := hxe i
            have sm : sameM h (hset g 109 (xe (sR a) (mo (sR a) (sB a), p) i) (nI i)) := sameM_tr e3 ⟨fun r hr => hset_ne _ _ _ (fun q => by subst q; revert hr; decide), fun f _ => by rw [hset_ne _ _ _ (by decide)]⟩
            obtain ⟨r1, r2, r3⟩ := IM_keep hM sm
            obtain ⟨h1, z1, z2, z3⟩ := muteM hW N (by omega) r2 r3 (muN_ok hW hz i)
            refine ⟨(nI (xe (sR a) (mo (sR a) (sB a), p) (i + 1)), nI (i + 1), h1), ?_, rfl, rfl, sameM_tr sm z2, fun j hj => ?_, fun y hy hj => ?_⟩
            · show K_M_round_L79 N c x1 x2 g = _
              unfold K_M_round_L79
              rw [e1, e2, gA_nI (by omega) (by omega), e5 _ xi hd, if_neg (by decide), sA_nI (by omega) (by omega), nI_cl (by omega), nm_s, show xe (sR a) (mo (sR a) (sB a), p) i = 16 * eM (sR a) (muN (sR a) (mo (sR a) (sB a), p) i).1 + (muN (sR a) (mo (sR a) (sB a), p) i).2 from rfl]
              rw [show xe (sR a) (mo (sR a) (sB a), p) i = 16 * eM (sR a) (muN (sR a) (mo (sR a) (sB a), p) i).1 + (muN (sR a) (mo (sR a) (sB a), p) i).2 from rfl] at z1
              rw [z1, bd2_s, show (1 : Int32) = nI 1 from rfl, nI_add, nm_s]
              rfl
            · show h1 109 _ = _
              rw [z3 109 (by decide), hset_at]
              by_cases c : j = i
              · rw [c, upd_at]
              · rw [upd_ne _ _ (hd j (by omega))]
                exact e4 j (by omega)
            · show h1 109 y = -1
              rw [z3 109 (by decide), hset_at, upd_ne _ _ (fun q => hj i (by omega) q.symm)]
              exact e5 y hy (fun j q => hj j (by omega))
          · obtain ⟨x1, x2, g⟩ := s
            obtain ⟨e1, e2, e3, e4, e5⟩ := hJ
            have e1 : x1 = nI (xe (sR a) (mo (sR a) (sB a), p) (u + v)) := e1
            have e2 : x2 = nI (u + v) := e2
            have e3 : sameM h g := e3
            have e4 : ∀ j, j < u + v → g 109 (xe (sR a) (mo (sR a) (sB a), p) j) = nI j := e4
            have eq : xe (sR a) (mo (sR a) (sB a), p) (u + v) = xe (sR a) (mo (sR a) (sB a), p) u := (xe_iff hW hz _ _).mpr g3
            have xi := hxe (u + v)
            have val : g 109 (xe (sR a) (mo (sR a) (sB a), p) (u + v)) = nI u := by rw [eq]; exact e4 u (by omega)
            refine ⟨(x1, x2, g), ?_, e1, e2, e3, val⟩
            show K_M_round_L79 N c x1 x2 g = _
            unfold K_M_round_L79
            rw [e1, gA_nI (by omega) (by omega), val, if_pos (show (0 : Int32) ≤ nI u from (nI_le_iff (a := 0) (by omega) (by omega)).mpr (by omega))]
        obtain ⟨⟨t1, t2, g9⟩, r1, r2, r3, r4, r5⟩ := run
        have r2 : t1 = nI (xe (sR a) (mo (sR a) (sB a), p) (u + v)) := r2
        have r3 : t2 = nI (u + v) := r3
        have r4 : sameM h g9 := r4
        have r5 : g9 109 (xe (sR a) (mo (sR a) (sB a), p) (u + v)) = nI u := r5
        have xi := hxe (u + v)
        have kM : K_M_round N x c h = some (if c = 0 then nI u else nI v, g9) := by
          unfold K_M_round
          rw [in15, bd_s, if_pos cx, if_neg (by decide), in1, bd_s, if_pos cc, if_neg (by decide), isNoneM hW hM.1, bd_s, if_neg w, if_pos rfl, nm_s, e12, f1, bd_s, stateNowM (by omega) hv (IM_keep hM f2).1 w, bd_s, ep, show (16 : Int32) = nI 16 from rfl, nI_mul, nI_add, nm_s]
          have r1 : loopN (fun z_ : Int32 × Int32 × Hp => K_M_round_L79 N c z_.1 z_.2.1 z_.2.2) N (nI (16 * eM (sR a) (mo (sR a) (sB a)) + p), 0, g0) = some (t1, t2, g9) := r1
          rw [r1, bd_s]
          show (if c = 0 then gA 55296 (g9 109) t1 (fun v117 => some (v117, g9)) else gA 55296 (g9 109) t1 (fun v128 => some (t2 - v128, g9))) = _
          rw [r2, gA_nI (by omega) (by omega), gA_nI (by omega) (by omega), r5, r3, nI_sub (by omega), show u + v - u = v by omega]
          by_cases c0 : c = 0
          · rw [if_pos c0, if_pos c0]
          · rw [if_neg c0, if_neg c0]
        exact ⟨_, g9, kC, kM, Inv_M r4 H0⟩
    · refine ex (-1000000002) ?_ ?_
      · unfold K_C_round
        rw [out15, bd_s, if_pos cx, if_pos rfl, out1, bd_s, if_neg cc, if_neg (by decide)]
      · unfold K_M_round
        rw [in15, bd_s, if_pos cx, if_neg (by decide), in1, bd_s, if_neg cc, if_pos rfl]
  · refine ex (-1000000002) ?_ ?_
    · unfold K_C_round
      rw [out15, bd_s, if_neg cx, if_neg (by decide)]
    · unfold K_M_round
      rw [in15, bd_s, if_neg cx, if_pos rfl]
