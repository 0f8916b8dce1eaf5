/-! the search: spreading -/
theorem neM1 {B : Nat} (h : B < 2147483648) : nI B ≠ -1 := fun q => by
  have := nI_not_neg h
  rw [q] at this
  exact this (by decide)
theorem rch0 {ρ : Rv} {kind x : Nat} : rch ρ kind 0 x = isG ρ (x % 384) := rfl
theorem spreadStep {ρ : Rv} (hW : WF ρ) (N : Nat) {h g : Hp} {kind m0 : Nat} (ho : okM ρ m0) (hk : kind ≤ 10) (hc : RC ρ h) (hl : RL ρ h) (hr : RK ρ (knd kind) h) {key : Int32} {d F U A J x : Nat} (hd : 1 ≤ d ∧ d ≤ 60) (hL : LI ρ kind m0 key h d F U A J g) (hFA : F ≤ A) (hAU : A < U) (hJ : J < cnK kind) (hx : g 42 A = nI x) (ox : okM ρ x) :
    (∃ g', K_Search_spread_L4 N (nI x) (nI (if kind = 10 then 4 else 1)) (nI (prK kind J)) g = some (.inl (nI (prK kind (J + 1)), g')) ∧ LI ρ kind m0 key h d F U A (J + 1) g' ∧ g' 42 A = nI x) ∨ (∃ g', K_Search_spread_L4 N (nI x) (nI (if kind = 10 then 4 else 1)) (nI (prK kind J)) g = some (.inr (.inl g')) ∧ FI ρ kind m0 key h d g') := by
  obtain ⟨Q, qu, hB, hFU, hUQ, hfr, h4, hS1, hS2, hS3, hT⟩ := hL
  obtain ⟨e, rfl⟩ : ∃ e, d = e + 1 := ⟨d - 1, by omega⟩
  have xl := okM_lt hW ox
  have qA := hB.2.2.1 A (by omega)
  have ql := okM_lt hW qA.2
  have ex : qu A = x := by
    have := qA.1.symm.trans hx
    exact (nI_eq_iff (by omega) (by omega)).mp this
  obtain ⟨pin, pl⟩ := prK_in hJ
  have oy := aft_ok hW (kn := knd kind) (p := prK kind J) ox
  have yl := okM_lt hW oy
  have hc' : ∀ f : Hp, (∀ r, r ∉ ([40, 41, 42] : List Nat) → f r = h r) → RC ρ f ∧ RL ρ f ∧ RK ρ (knd kind) f := fun f hf => ⟨RC_of (hf _ (by decide)) (hf _ (by decide)) (hf _ (by decide)) hc, RL_of (hf _ (by decide)) (hf _ (by decide)) (hf _ (by decide)) hl, RK_of (hf _ (by decide)) (hf _ (by decide)) hr⟩
  obtain ⟨c1, c2, c3⟩ := hc' g hfr.1
  have sy : inS ρ kind m0 (e + 1) (aft ρ (knd kind) x (prK kind J)) := by
    have := hS2 A hFA hAU
    rw [ex] at this
    exact inS_step this pin
  have ng : e + 1 < fD ρ kind m0 → ¬ isG ρ (aft ρ (knd kind) x (prK kind J) % 384) = true := fun q z => by
    have := sy 0 z
    rw [fD_lt (j := e + 1 + 0) (by omega)] at this
    exact absurd this (by decide)
  have body : K_Search_spread_L4 N (nI x) (nI (if kind = 10 then 4 else 1)) (nI (prK kind J)) g = bd2 (K_Search_reach (nI (aft ρ (knd kind) x (prK kind J))) (nI (16 * x + prK kind J)) g) (fun v30 h30 => if v30 = 0 then K_Search_spread_J56 N (nI x) (nI (if kind = 10 then 4 else 1)) (nI (prK kind J)) h30 else bd (K_River_isGoal (rm32 (nI (aft ρ (knd kind) x (prK kind J))) 384) h30) fun v43 => if v43 = 0 then K_Search_spread_J56 N (nI x) (nI (if kind = 10 then 4 else 1)) (nI (prK kind J)) h30 else nm (hset h30 40 4 (nI (aft ρ (knd kind) x (prK kind J)))) fun h52 => some (.inr (.inl h52))) := by
    unfold K_Search_spread_L4
    rw [if_neg (show ¬ (16 : Int32) ≤ nI (prK kind J) from fun q => by have := (nI_le_iff (a := 16) (by omega) (by omega)).mp q; omega), afterK hW c2 (knd_b hk) c3 ox.1 pl, bd_s, show nI x * 16 + nI (prK kind J) = nI (16 * x + prK kind J) by rw [show (16 : Int32) = nI 16 from rfl, nI_mul, nI_add, Nat.mul_comm]]
  have j56 : ∀ f : Hp, K_Search_spread_J56 N (nI x) (nI (if kind = 10 then 4 else 1)) (nI (prK kind J)) f = some (.inl (nI (prK kind (J + 1)), f)) := fun f => by
    unfold K_Search_spread_J56
    rw [prK_step hk, nm_s]
  -- the way's own step
  have own : ∀ q, fD ρ kind m0 ≤ 60 → e + 1 ≤ fD ρ kind m0 → qu q = pmN ρ kind (fD ρ kind m0) m0 (e + 1 - 1) → A = q → J = fj ρ kind (fD ρ kind m0 - (e + 1)) (qu q) → x = pmN ρ kind (fD ρ kind m0) m0 e ∧ prK kind J = nxp ρ kind (fD ρ kind m0 - e - 1) (pmN ρ kind (fD ρ kind m0) m0 e) ∧ aft ρ (knd kind) x (prK kind J) = pmN ρ kind (fD ρ kind m0) m0 (e + 1) := by
    intro q hf t1 q3 eA eJ
    subst eA
    have e1 : x = pmN ρ kind (fD ρ kind m0) m0 e := ex.symm.trans q3
    have r := pmN_rch (fD_at (ρ := ρ) (kind := kind) (m := m0) (by omega)) e (by omega)
    rw [show fD ρ kind m0 - e = (fD ρ kind m0 - e - 1) + 1 by omega] at r
    have e2 := (fj_ok r).2.1
    rw [ex, show fD ρ kind m0 - (e + 1) = fD ρ kind m0 - e - 1 by omega] at eJ
    have e3 : prK kind J = nxp ρ kind (fD ρ kind m0 - e - 1) (pmN ρ kind (fD ρ kind m0) m0 e) := by rw [e2, ← e1, ← eJ]
    refine ⟨e1, e3, ?_⟩
    show _ = aft ρ (knd kind) (pmN ρ kind (fD ρ kind m0) m0 e) (nxp ρ kind (fD ρ kind m0 - e - 1) (pmN ρ kind (fD ρ kind m0) m0 e))
    rw [e3, ← e1]
  have rn : fD ρ kind m0 ≤ 60 → e + 1 ≤ fD ρ kind m0 → rch ρ kind (fD ρ kind m0 - (e + 1)) (pmN ρ kind (fD ρ kind m0) m0 (e + 1)) = true := fun hf t1 => pmN_rch (fD_at (by omega)) (e + 1) t1
  rw [body]
  rcases reachK hW hB oy (B := 16 * x + prK kind J) (by omega) with ⟨⟨j, j1, j2⟩, z1⟩ | ⟨u1, g', z1, z2, z3, z4, z5⟩
  · left
    refine ⟨g, by rw [z1, bd2_s, if_pos rfl, j56], ⟨Q, qu, hB, hFU, hUQ, hfr, h4, hS1, hS2, hS3, fun hf => ?_⟩, hx⟩
    obtain ⟨t1, t2, q, q1, q2, q3, q4, q5, q6⟩ := hT hf
    refine ⟨t1, t2, q, q1, q2, q3, q4, fun z => q5 (by omega), fun z => ?_⟩
    by_cases cur : A = q ∧ J = fj ρ kind (fD ρ kind m0 - (e + 1)) (qu q)
    · exfalso
      obtain ⟨w1, w2, w3⟩ := own q hf t1 q3 cur.1 cur.2
      have r := rn hf t1
      rw [← w3, ← j2] at r
      by_cases c : j < U
      · obtain ⟨i, i1, i2⟩ := hS1 j c
        have := i2 _ r
        rw [fD_lt (j := i + (fD ρ kind m0 - (e + 1))) (by omega)] at this
        exact absurd this (by decide)
      · have := q5 (.inr ⟨cur.1, by rw [cur.2]; exact Nat.le_refl _⟩) j (by omega) j1
        rw [r] at this
        exact absurd this (by decide)
    · exact q6 (by omega)
  · have fr' : frS key h g' := ⟨fun r hr => (z4 r hr).trans (hfr.1 r hr), (z5 5 (by decide)).trans hfr.2.1, (z5 6 (by decide)).trans hfr.2.2⟩
    obtain ⟨d1, d2, d3⟩ := hc' g' fr'.1
    have g4 : g' 40 4 = -1 := (z5 4 (by decide)).trans h4
    have g42 : g' 42 A = nI x := by
      have := (z2.2.2.1 A (by omega)).1
      have this : g' 42 A = nI (if A = Q then aft ρ (knd kind) x (prK kind J) else qu A) := this
      rw [if_neg (by omega), ex] at this
      exact this
    have res : bd2 (K_Search_reach (nI (aft ρ (knd kind) x (prK kind J))) (nI (16 * x + prK kind J)) g) (fun v30 h30 => if v30 = 0 then K_Search_spread_J56 N (nI x) (nI (if kind = 10 then 4 else 1)) (nI (prK kind J)) h30 else bd (K_River_isGoal (rm32 (nI (aft ρ (knd kind) x (prK kind J))) 384) h30) fun v43 => if v43 = 0 then K_Search_spread_J56 N (nI x) (nI (if kind = 10 then 4 else 1)) (nI (prK kind J)) h30 else nm (hset h30 40 4 (nI (aft ρ (knd kind) x (prK kind J)))) fun h52 => some (.inr (.inl h52))) = if isG ρ (aft ρ (knd kind) x (prK kind J) % 384) = true then some (.inr (.inl (hset g' 40 4 (nI (aft ρ (knd kind) x (prK kind J)))))) else some (.inl (nI (prK kind (J + 1)), g')) := by
      rw [z1, bd2_s, if_neg (by decide), show (384 : Int32) = nI 384 from rfl, nI_rem (by omega) (by omega) (by omega), isGoalK hW d1 (Nat.mod_lt _ (by omega)), bd_s, j56, nm_s]
      by_cases c : isG ρ (aft ρ (knd kind) x (prK kind J) % 384) = true
      · rw [if_pos c, if_neg (by decide), if_pos c]
      · rw [if_neg c, if_pos rfl, if_neg c]
    rw [res]
    -- what was told of the way stays
    have old : ∀ (y : Nat) (B : Nat), B < 2147483648 → g 41 y = nI B → g' 41 y = nI B := fun y B hb q => by
      rw [z3, upd_ne _ _ (fun w => ?_)]
      · exact q
      · rw [w, u1] at q
        exact neM1 hb q.symm
    have S1' : ∀ j, j < U → ∃ i, i + 1 ≤ e + 1 ∧ inS ρ kind m0 i ((fun j => if j = Q then aft ρ (knd kind) x (prK kind J) else qu j) j) := fun j hj => by
      obtain ⟨i, i1, i2⟩ := hS1 j hj
      refine ⟨i, i1, ?_⟩
      show inS ρ kind m0 i (if j = Q then aft ρ (knd kind) x (prK kind J) else qu j)
      rw [if_neg (by omega)]; exact i2
    have S2' : ∀ j, F ≤ j → j < U → inS ρ kind m0 (e + 1 - 1) ((fun j => if j = Q then aft ρ (knd kind) x (prK kind J) else qu j) j) := fun j hF hj => by
      show inS ρ kind m0 (e + 1 - 1) (if j = Q then aft ρ (knd kind) x (prK kind J) else qu j)
      rw [if_neg (by omega)]; exact hS2 j hF hj
    have S3' : ∀ j, U ≤ j → j < Q + 1 → inS ρ kind m0 (e + 1) ((fun j => if j = Q then aft ρ (knd kind) x (prK kind J) else qu j) j) := fun j hU hj => by
      show inS ρ kind m0 (e + 1) (if j = Q then aft ρ (knd kind) x (prK kind J) else qu j)
      by_cases c : j = Q
      · rw [if_pos c]; exact sy
      · rw [if_neg c]; exact hS3 j hU (by omega)
    have nxl : ∀ i, i < fD ρ kind m0 → fD ρ kind m0 ≤ 60 → 16 * pmN ρ kind (fD ρ kind m0) m0 i + nxp ρ kind (fD ρ kind m0 - i - 1) (pmN ρ kind (fD ρ kind m0) m0 i) < 2147483648 := fun i hi hf => by
      have a := okM_lt hW (pmN_ok hW (kind := kind) (n := fD ρ kind m0) ho i)
      have r := pmN_rch (fD_at (ρ := ρ) (kind := kind) (m := m0) (by omega)) i (by omega)
      rw [show fD ρ kind m0 - i = (fD ρ kind m0 - i - 1) + 1 by omega] at r
      obtain ⟨b1, b2, -⟩ := fj_ok r
      have := (prK_in b1).2
      omega
    have mk : (fD ρ kind m0 ≤ 60 → e + 1 ≤ fD ρ kind m0 ∧ (∀ i, i + 1 < e + 1 → g' 41 (pmN ρ kind (fD ρ kind m0) m0 (i + 1)) = nI (16 * pmN ρ kind (fD ρ kind m0) m0 i + nxp ρ kind (fD ρ kind m0 - i - 1) (pmN ρ kind (fD ρ kind m0) m0 i))) ∧
        ∃ q, F ≤ q ∧ q < U ∧ qu q = pmN ρ kind (fD ρ kind m0) m0 (e + 1 - 1) ∧ (∀ j, F ≤ j → j < q → rch ρ kind (fD ρ kind m0 - (e + 1) + 1) (qu j) = false) ∧
          ((A < q ∨ (A = q ∧ J + 1 ≤ fj ρ kind (fD ρ kind m0 - (e + 1)) (qu q))) → (∀ j, U ≤ j → j < Q → rch ρ kind (fD ρ kind m0 - (e + 1)) (qu j) = false) ∧ rch ρ kind (fD ρ kind m0 - (e + 1)) (aft ρ (knd kind) x (prK kind J)) = false) ∧
          ((q < A ∨ (A = q ∧ fj ρ kind (fD ρ kind m0 - (e + 1)) (qu q) < J + 1)) → e + 1 < fD ρ kind m0 ∧ ((∃ q', U ≤ q' ∧ q' < Q ∧ qu q' = pmN ρ kind (fD ρ kind m0) m0 (e + 1) ∧ (∀ j, U ≤ j → j < q' → rch ρ kind (fD ρ kind m0 - (e + 1)) (qu j) = false)) ∨ (aft ρ (knd kind) x (prK kind J) = pmN ρ kind (fD ρ kind m0) m0 (e + 1) ∧ (∀ j, U ≤ j → j < Q → rch ρ kind (fD ρ kind m0 - (e + 1)) (qu j) = false))) ∧ g' 41 (pmN ρ kind (fD ρ kind m0) m0 (e + 1)) = nI (16 * pmN ρ kind (fD ρ kind m0) m0 (e + 1 - 1) + nxp ρ kind (fD ρ kind m0 - (e + 1)) (pmN ρ kind (fD ρ kind m0) m0 (e + 1 - 1))))) →
        LI ρ kind m0 key h (e + 1) F U A (J + 1) g' := by
      intro T
      refine ⟨Q + 1, (fun j => if j = Q then aft ρ (knd kind) x (prK kind J) else qu j), z2, hFU, by omega, fr', g4, S1', S2', S3', fun hf => ?_⟩
      obtain ⟨t1, t2, q, q1, q2, q3, q4, q5, q6⟩ := T hf
      have eq : (fun j => if j = Q then aft ρ (knd kind) x (prK kind J) else qu j) q = qu q := if_neg (by omega)
      refine ⟨t1, t2, q, q1, q2, by rw [eq]; exact q3, fun j hj1 hj2 => ?_, fun z => ?_, fun z => ?_⟩
      · show rch ρ kind _ (if j = Q then aft ρ (knd kind) x (prK kind J) else qu j) = false
        rw [if_neg (by omega)]; exact q4 j hj1 hj2
      · rw [eq] at z
        obtain ⟨a1, a2⟩ := q5 z
        intro j hj1 hj2
        show rch ρ kind _ (if j = Q then aft ρ (knd kind) x (prK kind J) else qu j) = false
        by_cases c : j = Q
        · rw [if_pos c]; exact a2
        · rw [if_neg c]; exact a1 j hj1 (by omega)
      · rw [eq] at z
        obtain ⟨a1, a2, a3⟩ := q6 z
        refine ⟨a1, ?_⟩
        rcases a2 with ⟨q', b1, b2, b3, b4⟩ | ⟨b1, b2⟩
        · refine ⟨q', b1, by omega, ?_, fun j hj1 hj2 => ?_, a3⟩
          · show (if q' = Q then aft ρ (knd kind) x (prK kind J) else qu q') = _
            rw [if_neg (by omega)]; exact b3
          · show rch ρ kind _ (if j = Q then aft ρ (knd kind) x (prK kind J) else qu j) = false
            rw [if_neg (by omega)]; exact b4 j hj1 hj2
        · refine ⟨Q, hUQ, by omega, ?_, fun j hj1 hj2 => ?_, a3⟩
          · show (if Q = Q then aft ρ (knd kind) x (prK kind J) else qu Q) = _
            rw [if_pos rfl]; exact b1
          · show rch ρ kind _ (if j = Q then aft ρ (knd kind) x (prK kind J) else qu j) = false
            rw [if_neg (by omega)]; exact b2 j hj1 hj2
    have fb := fD_b ρ kind m0
    by_cases hf : fD ρ kind m0 ≤ 60
    · obtain ⟨t1, t2, q, q1, q2, q3, q4, q5, q6⟩ := hT hf
      have og : ∀ i, i + 1 < e + 1 → g' 41 (pmN ρ kind (fD ρ kind m0) m0 (i + 1)) = nI (16 * pmN ρ kind (fD ρ kind m0) m0 i + nxp ρ kind (fD ρ kind m0 - i - 1) (pmN ρ kind (fD ρ kind m0) m0 i)) := fun i hi => old _ _ (nxl i (by omega) hf) (t2 i hi)
      by_cases cur : A = q ∧ J = fj ρ kind (fD ρ kind m0 - (e + 1)) (qu q)
      · obtain ⟨w1, w2, w3⟩ := own q hf t1 q3 cur.1 cur.2
        have told : g' 41 (pmN ρ kind (fD ρ kind m0) m0 (e + 1)) = nI (16 * pmN ρ kind (fD ρ kind m0) m0 e + nxp ρ kind (fD ρ kind m0 - e - 1) (pmN ρ kind (fD ρ kind m0) m0 e)) := by
          rw [z3, ← w3, upd_at, ← w1, w2, ← w1]
        have bef := q5 (.inr ⟨cur.1, by rw [cur.2]; exact Nat.le_refl _⟩)
        by_cases dn : e + 1 = fD ρ kind m0
        · right
          have isg : isG ρ (aft ρ (knd kind) x (prK kind J) % 384) = true := by
            have r := rn hf t1
            rw [← w3, show fD ρ kind m0 - (e + 1) = 0 by omega] at r
            exact r
          refine ⟨hset g' 40 4 (nI (aft ρ (knd kind) x (prK kind J))), by rw [if_pos isg], hf, dn, ⟨fun r hr => (hset_ne _ _ _ (ne_of_nm hr (by decide))).trans (fr'.1 r hr), ?_, ?_⟩, ?_, fun i hi => ?_⟩
          · rw [hset_at, upd_ne _ _ (by decide)]; exact fr'.2.1
          · rw [hset_at, upd_ne _ _ (by decide)]; exact fr'.2.2
          · rw [hset_at, upd_at, w3, dn]
          · rw [hset_ne _ _ _ (by decide)]
            by_cases c : i = e
            · rw [c]; exact told
            · exact og i (by omega)
        · left
          refine ⟨g', by rw [if_neg (ng (by omega))], mk (fun _ => ⟨t1, og, q, q1, q2, q3, q4, fun z => ?_, fun z => ⟨by omega, .inr ⟨w3, bef⟩, ?_⟩⟩), g42⟩
          · exfalso
            have := cur.2
            omega
          · rw [show fD ρ kind m0 - (e + 1) = fD ρ kind m0 - e - 1 by omega]
            exact told
      · left
        by_cases bf : A < q ∨ (A = q ∧ J + 1 ≤ fj ρ kind (fD ρ kind m0 - (e + 1)) (qu q))
        · have ry : rch ρ kind (fD ρ kind m0 - (e + 1)) (aft ρ (knd kind) x (prK kind J)) = false := by
            rcases bf with b | ⟨b1, b2⟩
            · refine Bool.eq_false_iff.mpr (fun r => ?_)
              have := q4 A hFA b
              rw [ex, rch_s.mpr ⟨_, pin, r⟩] at this
              exact absurd this (by decide)
            · rw [← b1, ex] at b2
              exact fs_lt (fun j => rch ρ kind (fD ρ kind m0 - (e + 1)) (aft ρ (knd kind) x (prK kind j))) (e := cnK kind) (j := J) (by unfold fj at b2; omega)
          have nog : ¬ isG ρ (aft ρ (knd kind) x (prK kind J) % 384) = true := by
            by_cases dn : e + 1 = fD ρ kind m0
            · intro r
              rw [show fD ρ kind m0 - (e + 1) = 0 by omega] at ry
              rw [rch0, r] at ry
              exact absurd ry (by decide)
            · exact ng (by omega)
          refine ⟨g', by rw [if_neg nog], mk (fun _ => ⟨t1, og, q, q1, q2, q3, q4, fun z => ⟨q5 (by omega), ry⟩, fun z => ?_⟩), g42⟩
          exfalso
          omega
        · have af : q < A ∨ (A = q ∧ fj ρ kind (fD ρ kind m0 - (e + 1)) (qu q) < J) := by omega
          obtain ⟨a1, q', b1, b2, b3, b4, b5⟩ := q6 af
          refine ⟨g', by rw [if_neg (ng a1)], mk (fun _ => ⟨t1, og, q, q1, q2, q3, q4, fun z => absurd z bf, fun z => ⟨a1, .inl ⟨q', b1, b2, b3, b4⟩, ?_⟩⟩), g42⟩
          have nb := nxl e (by omega) hf
          refine old _ _ ?_ b5
          rw [show e + 1 - 1 = e by omega, show fD ρ kind m0 - (e + 1) = fD ρ kind m0 - e - 1 by omega]
          exact nb
    · left
      refine ⟨g', ?_, mk (fun q => absurd q hf), g42⟩
      rw [if_neg (ng (by omega))]
