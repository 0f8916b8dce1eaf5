/-! still -/
theorem shf {r q : Nat} (hr : r < 2147483648) (hq : q < 4) : (nI r >>> ((4 * nI q) &&& 31)) &&& 15 = nI (r / 16 ^ q % 16) := by
  have hs : ∀ q, q < 4 → (((4 * nI q) &&& 31 : Int32).toBitVec.smod 32).toNat = 4 * q := by decide
  have hd : r / 2 ^ (4 * q) ≤ r := Nat.div_le_self _ _
  rw [pk_shrN (by omega) _ (4 * q) (hs q hq), pk_andN (by omega) (m := 15) 4 (by decide), Nat.pow_mul]
theorem p16 {q : Nat} (h : q ≤ 4) : 16 ^ q ≤ 65536 := Nat.pow_le_pow_right (by decide) h
def prw (r n i : Nat) : Nat := r / 16 ^ (n - 1 - i) % 16
theorem prw_lt (r n i : Nat) : prw r n i < 16 := Nat.mod_lt _ (by decide)
theorem pairOfK {r n i : Nat} (hr : r < 2147483648) (hn : n ≤ 4) (hi : i < n) : K_C_pairOfRow (nI r) (nI n) (nI i) = some (nI (prw r n i)) := by
  unfold K_C_pairOfRow prw
  rw [show (1 : Int32) = nI 1 from rfl, nI_sub (by omega), nI_sub (by omega), shf hr (by omega)]
theorem shl4 : ∀ n, n ≤ 4 → (1 <<< ((4 * nI n) &&& 31) : Int32) = nI (16 ^ n) := by decide
def stN (ρ : Rv) (m r n : Nat) : Nat → Nat
  | 0 => m
  | i + 1 => aft ρ 0 (stN ρ m r n i) (prw r n i)
theorem stN_ok {ρ : Rv} (hW : WF ρ) {m : Nat} (h : okM ρ m) (r n : Nat) : ∀ i, okM ρ (stN ρ m r n i) := by
  intro i
  induction i with
  | zero => exact h
  | succ i ih => exact aft_ok hW ih
def stP (ρ : Rv) (m n r : Nat) : Bool := decide (stN ρ m r n n % 384 = m % 384)
def stF (ρ : Rv) (m n : Nat) : Nat := fs (stP ρ m n) (16 ^ n)
def stG (ρ : Rv) (m j : Nat) : Bool := decide (stF ρ m (j + 1) < 16 ^ (j + 1))
theorem stillRowK {k : Nat} {a : St} {h : Hp} (N : Nat) (hN : 100000 < N) (hk : k ≤ 64) (hv : VS k a) (hC : IC k a h) (w : rW (sR a) ≠ 0) {n : Nat} (hn : n ≤ 3) : K_C_stillRow N (nI n) h = some (if stF (sR a) (mo (sR a) (sB a)) n < 16 ^ n then nI (stF (sR a) (mo (sR a) (sB a)) n) else -1) := by
  have hW := hv.1
  have hm0 := mo_ok hW hv.2.2.1.1 w
  have hp := p16 (q := n) (by omega)
  have mp := mo_parts hW (b := sB a) hv.2.2.1.1.1
  have hb : h 30 0 = nI (sB a).1 := hC.2.2.2.1.1
  have hu : (sB a).1 < 384 := hv.2.2.1.1.1
  have inner : ∀ r, r < 16 ^ n → loopN (fun z_ : Int32 × Int32 => K_C_stillRow_L22 N (nI n) (nI (16 ^ n)) (nI r) z_.1 z_.2 h) N (nI (mo (sR a) (sB a)), 0) = some (nI (stN (sR a) (mo (sR a) (sB a)) r n n)) := by
    intro r hr
    refine loopN_for _ (fun i => (nI (stN (sR a) (mo (sR a) (sB a)) r n i), nI i)) n _ (fun i hi => ?_) ?_ (by omega)
    · show K_C_stillRow_L22 N (nI n) (nI (16 ^ n)) (nI r) (nI _) (nI i) h = _
      unfold K_C_stillRow_L22
      rw [if_neg (fun q => by have := (nI_le_iff (by omega) (by omega)).mp q; omega), pairOfK (by omega) (by omega) hi, bd_s, stepC hW hC (stN_ok hW hm0 r n i) (prw_lt r n i), bd_s, show (1 : Int32) = nI 1 from rfl, nI_add, nm_s]
      rfl
    · show K_C_stillRow_L22 N (nI n) (nI (16 ^ n)) (nI r) (nI _) (nI n) h = _
      unfold K_C_stillRow_L22
      rw [if_pos ((nI_le_iff (by omega) (by omega)).mpr (Nat.le_refl _))]
  obtain ⟨t, l1, l2⟩ := loopN_fs (fun z_ : Int32 => K_C_stillRow_L8 N (nI n) (nI (16 ^ n)) z_ h) (fun r s => s = nI r) (stP (sR a) (mo (sR a) (sB a)) n) (16 ^ n) (fun r t => t = .inl (nI r)) (fun t => t = .inr ()) (fun r s hr hJ hP => by
      subst hJ
      have ol := okM_lt hW (stN_ok hW hm0 r n n)
      refine ⟨_, ?_, rfl⟩
      unfold K_C_stillRow_L8
      rw [if_neg (fun q => by have := (nI_le_iff (by omega) (by omega)).mp q; omega), momentK hk hv hC, bd_s, inner r hr, bd_s, show (384 : Int32) = nI 384 from rfl, nI_rem (by omega) (by omega) (by omega), hb, if_neg (fun q => of_decide_eq_false hP (by rw [mp.2.1]; exact (nI_eq_iff (by omega) (by omega)).mp q)), show (1 : Int32) = nI 1 from rfl, nI_add, nm_s]) (fun r s hr hJ hP => by
      subst hJ
      have ol := okM_lt hW (stN_ok hW hm0 r n n)
      refine ⟨_, ?_, rfl⟩
      have e := of_decide_eq_true hP
      rw [mp.2.1] at e
      unfold K_C_stillRow_L8
      rw [if_neg (fun q => by have := (nI_le_iff (by omega) (by omega)).mp q; omega), momentK hk hv hC, bd_s, inner r hr, bd_s, show (384 : Int32) = nI 384 from rfl, nI_rem (by omega) (by omega) (by omega), hb, if_pos (congrArg nI e)]) (fun s hJ => by
      subst hJ
      refine ⟨_, ?_, rfl⟩
      unfold K_C_stillRow_L8
      rw [if_pos ((nI_le_iff (by omega) (by omega)).mpr (Nat.le_refl _))]) (s0 := 0) rfl (N := N) (by omega)
  unfold K_C_stillRow
  rw [shl4 n (by omega), nm_s, show loopN (fun z_ : Int32 => K_C_stillRow_L8 N (nI n) (nI (16 ^ n)) z_ h) N 0 = some t from l1, bd_s]
  unfold stF
  rcases l2 with ⟨q1, q2⟩ | ⟨q1, q2⟩
  · rw [if_pos q1, q2]; rfl
  · rw [if_neg (by omega), q2]; rfl
theorem stateByM {k : Nat} {a : St} {h g : Hp} (N : Nat) (hN : 200 < N) (hk : k ≤ 64) (hv : VS k a) (hM : IM a h) (hg : sameM h g) (w : rW (sR a) ≠ 0) {r n : Nat} (hr : r < 2147483648) (hn : n ≤ 4) : ∃ g', K_M_stateBy N (nI r) (nI n) g = some (nI (eM (sR a) (stN (sR a) (mo (sR a) (sB a)) r n n)), g') ∧ sameM h g' := by
  have hW := hv.1
  have hm0 := mo_ok hW hv.2.2.1.1 w
  obtain ⟨t, l1, g', l2, l3⟩ := loopN_fx (fun z_ : Int32 × Int32 × Hp => K_M_stateBy_L10 N (nI r) z_.1 z_.2.1 z_.2.2) (fun j s => ∃ g', sameM h g' ∧ s = (nI (eM (sR a) (stN (sR a) (mo (sR a) (sB a)) r n j)), iI ((n : Int) - 1 - (j : Int)), g')) n (fun t => ∃ g', sameM h g' ∧ t = (nI (eM (sR a) (stN (sR a) (mo (sR a) (sB a)) r n n)), g')) (fun j s hj hJ => by
      obtain ⟨g1, hg1, hJ⟩ := hJ
      subst hJ
      obtain ⟨g2, z1, z2, z3⟩ := stepM hW N hN hM hg1 (stN_ok hW hm0 r n j) (prw_lt r n j)
      refine ⟨(nI (eM (sR a) (stN (sR a) (mo (sR a) (sB a)) r n (j + 1))), iI ((n : Int) - 1 - ((j + 1 : Nat) : Int)), g2), ?_, g2, z2, rfl⟩
      show K_M_stateBy_L10 N (nI r) (nI _) (iI _) g1 = _
      unfold K_M_stateBy_L10
      have e : iI ((n : Int) - 1 - (j : Int)) = nI (n - 1 - j) := by rw [nI_iI]; congr 1; omega
      have e2 : nI (n - 1 - j) + (-1) = iI ((n : Int) - 1 - ((j + 1 : Nat) : Int)) := by
        rw [nI_iI, show (-1 : Int32) = iI (-1) from by decide, iI_add]; congr 1; omega
      have pl := prw_lt r n j
      rw [e, if_neg (nI_not_neg (by omega)), shf hr (by omega), nm_s]
      show bd2 (K_M_after N (nI (eM (sR a) (stN (sR a) (mo (sR a) (sB a)) r n j))) (nI (prw r n j) / 4) (rm32 (nI (prw r n j)) 4) g1) _ = _
      rw [show (4 : Int32) = nI 4 from rfl, nI_div (by omega) (by omega) (by omega), nI_rem (by omega) (by omega) (by omega), z1, bd2_s, e2, nm_s]
      rfl) (fun s hJ => by
      obtain ⟨g1, hg1, hJ⟩ := hJ
      subst hJ
      refine ⟨_, ?_, g1, hg1, rfl⟩
      show K_M_stateBy_L10 N (nI r) (nI _) (iI _) g1 = _
      unfold K_M_stateBy_L10
      rw [if_pos (show iI ((n : Int) - 1 - (n : Int)) < (0 : Int32) from (iI_lt_iff (b := 0) (by omega) (by omega) (by omega) (by omega)).mpr (by omega))]) (s0 := (nI (eM (sR a) (mo (sR a) (sB a))), nI n - 1, g)) ⟨g, hg, by
        have : nI n - 1 = iI ((n : Int) - 1 - ((0 : Nat) : Int)) := by rw [nI_iI, show (1 : Int32) = iI 1 from rfl, iI_sub]; congr 1; omega
        rw [this]; rfl⟩ (N := N) (by omega)
  refine ⟨g', ?_, l2⟩
  unfold K_M_stateBy
  rw [stateNowM hk hv (IM_keep hM hg).1 w, bd_s, nm_s, l1, bd_s, l3]
def stA (x : Int32) (n r : Nat) : Int32 := if x = -1 then nI n else if 0 ≤ x.toInt ∧ x.toInt ≤ (n : Int) - 1 then nI (prw r n x.toInt.toNat) else -1
theorem head_iff {ρ : Rv} (hW : WF ρ) {u v : Nat} (hu : okS ρ (u / 8)) (hv : okS ρ (v / 8)) : 8 * cM ρ (u / 8) + u % 8 = 8 * cM ρ (v / 8) + v % 8 ↔ u = v := by
  constructor
  · intro e
    have e1 : cM ρ (u / 8) = cM ρ (v / 8) := by omega
    have := cM_inj hW (okS_in hW hu) (okS_in hW hv) e1
    omega
  · intro e; rw [e]
theorem stillM {k : Nat} {a : St} {h : Hp} (N : Nat) (hN : 100000 < N) (hk : k ≤ 64) (hv : VS k a) (hM : IM a h) (w : rW (sR a) ≠ 0) (x : Int32) {g : Hp} (hg : sameM h g) {n : Nat} (hn : 1 ≤ n ∧ n ≤ 3) : ∃ t, loopN (fun z_ : Int32 × Hp => K_M_still_L42 N x (nI (8 * cM (sR a) ((sB a).1 / 8) + (sB a).1 % 8)) (nI n) z_.1 z_.2) N (0, g) = some t ∧ ((stF (sR a) (mo (sR a) (sB a)) n < 16 ^ n ∧ ∃ g', sameM h g' ∧ t = .inl (stA x n (stF (sR a) (mo (sR a) (sB a)) n), g')) ∨ (stF (sR a) (mo (sR a) (sB a)) n = 16 ^ n ∧ ∃ g', sameM h g' ∧ t = .inr g')) := by
  have hW := hv.1
  have hm0 := mo_ok hW hv.2.2.1.1 w
  have hp := p16 (q := n) (by omega)
  have mp := mo_parts hW (b := sB a) hv.2.2.1.1.1
  have hu : (sB a).1 < 384 := hv.2.2.1.1.1
  have hus : okS (sR a) ((sB a).1 / 8) := hv.2.2.1.1.2.2 w
  have huc := cM_lt hW (okS_in hW hus)
  have tb := tmv_b hW
  refine loopN_fs (fun z_ : Int32 × Hp => K_M_still_L42 N x (nI (8 * cM (sR a) ((sB a).1 / 8) + (sB a).1 % 8)) (nI n) z_.1 z_.2) (fun r s => ∃ g', sameM h g' ∧ s = (nI r, g')) (stP (sR a) (mo (sR a) (sB a)) n) (16 ^ n) (fun r t => ∃ g', sameM h g' ∧ t = .inl (stA x n r, g')) (fun t => ∃ g', sameM h g' ∧ t = .inr g') (fun r s hr hJ hP => ?_) (fun r s hr hJ hP => ?_) (fun s hJ => ?_) ⟨g, hg, rfl⟩ (by omega)
  · obtain ⟨g1, hg1, hJ⟩ := hJ
    subst hJ
    obtain ⟨g2, z1, z2⟩ := stateByM N (by omega) hk hv hM hg1 w (r := r) (n := n) (by omega) (by omega)
    have q2 := (IM_keep hM z2).1
    have o := stN_ok hW hm0 r n n
    obtain ⟨d1, d2⟩ := eM_q hW o
    have hcl := cM_lt hW (okS_in hW o.2)
    have e := of_decide_eq_false hP
    rw [mp.2.1] at e
    refine ⟨_, ?_, g2, z2, rfl⟩
    show K_M_still_L42 N x _ (nI n) (nI r) g1 = _
    unfold K_M_still_L42
    rw [shl4 n (by omega), if_neg (fun q => by have := (nI_le_iff (by omega) (by omega)).mp q; omega), z1, bd2_s, timesM hW q2.1, bd_s, dz_nI (by omega) (by omega), d1, if_neg (fun q => e ?_), show (1 : Int32) = nI 1 from rfl, nI_add, nm_s]
    have q := (nI_eq_iff (by omega) (by omega)).mp q
    have hh := (head_iff hW (u := stN (sR a) (mo (sR a) (sB a)) r n n % 384) (v := (sB a).1) o.2 hus).mp (by omega)
    exact hh
  · obtain ⟨g1, hg1, hJ⟩ := hJ
    subst hJ
    obtain ⟨g2, z1, z2⟩ := stateByM N (by omega) hk hv hM hg1 w (r := r) (n := n) (by omega) (by omega)
    have q2 := (IM_keep hM z2).1
    have o := stN_ok hW hm0 r n n
    obtain ⟨d1, d2⟩ := eM_q hW o
    have hcl := cM_lt hW (okS_in hW o.2)
    have e := of_decide_eq_true hP
    rw [mp.2.1] at e
    refine ⟨_, ?_, g2, z2, rfl⟩
    show K_M_still_L42 N x _ (nI n) (nI r) g1 = _
    unfold K_M_still_L42 stA
    have em : stN (sR a) (mo (sR a) (sB a)) r n n % 8 = (sB a).1 % 8 := by omega
    have en : Int32.toInt64 (nI n - 1) = iL ((n : Int) - 1) := by
      rw [nI_iI, show (1 : Int32) = iI 1 from rfl, iI_sub, toI64 (by omega) (by omega)]
    rw [shl4 n (by omega), if_neg (fun q => by have := (nI_le_iff (by omega) (by omega)).mp q; omega), z1, bd2_s, timesM hW q2.1, bd_s, dz_nI (by omega) (by omega), d1, e, em, if_pos rfl]
    by_cases x1 : x = -1
    · rw [if_pos x1, if_pos x1]
    · rw [if_neg x1, if_neg x1, inX (a := 0) (lo := 0) (hi := (n : Int) - 1) (by decide) en (by omega) (by omega) (by omega) (by omega), bd_s]
      by_cases x2 : 0 ≤ x.toInt ∧ x.toInt ≤ (n : Int) - 1
      · rw [if_pos x2, if_pos x2, if_neg (by decide)]
        obtain ⟨i, hi, ei⟩ := nat_of (x := x) (n := n - 1) (by omega)
        have ti : x.toInt.toNat = i := by rw [ei, nI_toInt (by omega)]; omega
        rw [ti, ei, show (1 : Int32) = nI 1 from rfl, nI_sub (by omega), nI_sub (by omega), shf (by omega) (by omega)]
        rfl
      · rw [if_neg x2, if_neg x2, if_pos rfl]
  · obtain ⟨g1, hg1, hJ⟩ := hJ
    subst hJ
    refine ⟨_, ?_, g1, hg1, rfl⟩
    show K_M_still_L42 N x _ (nI n) (nI (16 ^ n)) g1 = _
    unfold K_M_still_L42
    rw [shl4 n (by omega), if_pos ((nI_le_iff (by omega) (by omega)).mpr (Nat.le_refl _))]
theorem MO_still_ok (N : Nat) (hN : 100000 < N) : MO_still N Inv := by
  intro k b0 b1 h x hk H
  have H0 := H
  obtain ⟨a, hv, hC, hM, h4, h5⟩ := H
  have hW := hv.1
  by_cases w : rW (sR a) = 0
  · refine ⟨-1000000003, h, ?_, ?_, Inv_M (sameM_rf h) H0⟩
    · unfold K_C_still
      rw [noSquaresK hW hC.2.2.1.1, bd_s, if_pos w, if_neg (by decide)]
    · unfold K_M_still
      rw [isNoneM hW hM.1, bd_s, if_pos w, if_neg (by decide)]
  · have e12 : hset h 100 12 0 = h := hset_id hM.2.1
    have hus : okS (sR a) ((sB a).1 / 8) := hv.2.2.1.1.2.2 w
    have huc := cM_lt hW (okS_in hW hus)
    obtain ⟨t, l1, l2⟩ := loopN_fs (fun z_ : Int32 => K_C_still_L12 N x z_ h) (fun j s => s = nI (j + 1)) (stG (sR a) (mo (sR a) (sB a))) 3 (fun j t => t = .inl (stA x (j + 1) (stF (sR a) (mo (sR a) (sB a)) (j + 1)))) (fun t => t = .inr ()) (fun j s hj hJ hP => by
        subst hJ
        refine ⟨_, ?_, rfl⟩
        unfold K_C_still_L12
        rw [if_neg (fun q => by have := (nI_lt_iff (a := 3) (by omega) (by omega)).mp q; omega), stillRowK N hN (by omega) hv hC w (by omega), bd_s, if_neg (of_decide_eq_false hP), if_pos rfl, show (1 : Int32) = nI 1 from rfl, nI_add, nm_s]) (fun j s hj hJ hP => by
        subst hJ
        refine ⟨_, ?_, rfl⟩
        have e := of_decide_eq_true hP
        have hp := p16 (q := j + 1) (by omega)
        unfold K_C_still_L12 K_C_still_J46 stA
        rw [if_neg (fun q => by have := (nI_lt_iff (a := 3) (by omega) (by omega)).mp q; omega), stillRowK N hN (by omega) hv hC w (by omega), bd_s, if_pos e, if_neg (fun q => by
          have := nI_not_neg (a := stF (sR a) (mo (sR a) (sB a)) (j + 1)) (by omega)
          rw [q] at this
          exact this (by decide))]
        by_cases x1 : x = -1
        · rw [if_pos x1, if_pos x1]
        · rw [if_neg x1, if_neg x1]
          have c1 : x < 0 ↔ x.toInt < 0 := Int32.lt_iff_toInt_lt
          have c2 : x < nI (j + 1) ↔ x.toInt < ((j + 1 : Nat) : Int) := by rw [Int32.lt_iff_toInt_lt, nI_toInt (by omega)]
          by_cases x2 : 0 ≤ x.toInt ∧ x.toInt ≤ ((j + 1 : Nat) : Int) - 1
          · rw [if_pos x2, if_neg (fun q => by have := c1.mp q; omega), if_pos (c2.mpr (by omega))]
            obtain ⟨i, hi, ei⟩ := nat_of (x := x) (n := j) (by omega)
            have ti : x.toInt.toNat = i := by rw [ei, nI_toInt (by omega)]; omega
            rw [ti, ei, pairOfK (by omega) (by omega) (by omega), bd_s]
          · rw [if_neg x2]
            by_cases x3 : x.toInt < 0
            · rw [if_pos (c1.mpr x3)]
            · rw [if_neg (fun q => x3 (c1.mp q)), if_neg (fun q => by have := c2.mp q; omega)]) (fun s hJ => by
        subst hJ
        refine ⟨_, ?_, rfl⟩
        unfold K_C_still_L12
        rw [if_pos (by decide)]) (s0 := 1) rfl (N := N) (by omega)
    obtain ⟨t2, m1, m2⟩ := loopN_fs (fun z_ : Int32 × Hp => K_M_still_L34 N x (nI (8 * cM (sR a) ((sB a).1 / 8) + (sB a).1 % 8)) z_.1 z_.2) (fun j s => ∃ g, sameM h g ∧ s = (nI (j + 1), g)) (stG (sR a) (mo (sR a) (sB a))) 3 (fun j t => ∃ g, sameM h g ∧ t = .inl (stA x (j + 1) (stF (sR a) (mo (sR a) (sB a)) (j + 1)), g)) (fun t => ∃ g, sameM h g ∧ t = .inr g) (fun j s hj hJ hP => by
        obtain ⟨g, hg, hJ⟩ := hJ
        subst hJ
        obtain ⟨t, z1, z2⟩ := stillM N hN (by omega) hv hM w x hg (n := j + 1) (by omega)
        rcases z2 with ⟨z2, -⟩ | ⟨z2, g2, z3, z4⟩
        · exact absurd z2 (of_decide_eq_false hP)
        · subst z4
          refine ⟨_, ?_, g2, z3, rfl⟩
          show K_M_still_L34 N x _ (nI (j + 1)) g = _
          unfold K_M_still_L34
          rw [if_neg (fun q => by have := (nI_le_iff (a := 4) (by omega) (by omega)).mp q; omega), z1, bd_s, show nI (j + 1) + 1 = nI (j + 1 + 1) from nI_add _ 1]
          rfl) (fun j s hj hJ hP => by
        obtain ⟨g, hg, hJ⟩ := hJ
        subst hJ
        obtain ⟨t, z1, z2⟩ := stillM N hN (by omega) hv hM w x hg (n := j + 1) (by omega)
        rcases z2 with ⟨z2, g2, z3, z4⟩ | ⟨z2, -⟩
        · subst z4
          refine ⟨_, ?_, g2, z3, rfl⟩
          show K_M_still_L34 N x _ (nI (j + 1)) g = _
          unfold K_M_still_L34
          rw [if_neg (fun q => by have := (nI_le_iff (a := 4) (by omega) (by omega)).mp q; omega), z1, bd_s]
          rfl
        · have := of_decide_eq_true hP
          omega) (fun s hJ => by
        obtain ⟨g, hg, hJ⟩ := hJ
        subst hJ
        refine ⟨_, ?_, g, hg, rfl⟩
        show K_M_still_L34 N x _ (nI (3 + 1)) g = _
        unfold K_M_still_L34
        rw [if_pos (by decide)]) (s0 := (1, h)) ⟨h, sameM_rf h, rfl⟩ (N := N) (by omega)
    have mB := hM.2.2.2.2.1
    have kM0 : K_M_still N x h = bd (some t2) (fun t34 => el t34 (fun r_ => some r_) (fun t34x => some ((-1), t34x))) := by
      unfold K_M_still
      rw [isNoneM hW hM.1, bd_s, if_neg w, if_pos rfl, nm_s, e12, gA_lit (x := 0) (i := 0) rfl (by omega) (by omega), mB.1, gA_lit (x := 1) (i := 1) rfl (by omega) (by omega), show h 101 1 = _ from mB.2.1, show (8 : Int32) = nI 8 from rfl, nI_mul, nI_add, nm_s, m1]
    have kC0 : K_C_still N x h = bd (some t) (fun t12 => el t12 (fun r_ => some r_) (fun t12x => some (-1))) := by
      unfold K_C_still
      rw [noSquaresK hW hC.2.2.1.1, bd_s, if_neg w, if_pos rfl, l1]
    rcases l2 with ⟨q1, q2⟩ | ⟨q1, q2⟩
    · rcases m2 with ⟨r1, g, r2, r3⟩ | ⟨r1, g, r2, r3⟩
      · subst q2 r3
        exact ⟨_, g, kC0, kM0, Inv_M r2 H0⟩
      · omega
    · rcases m2 with ⟨r1, g, r2, r3⟩ | ⟨r1, g, r2, r3⟩
      · omega
      · subst q2 r3
        exact ⟨_, g, kC0, kM0, Inv_M r2 H0⟩
