/-! river, whole -/
theorem cp103 (N : Nat) (hN : 200 < N) (h : Hp) : ∃ t, loopN (fun z_ : Int32 × Hp => K_M_river_L172 N z_.1 z_.2) N (0, h) = some t ∧ (∀ r, r ≠ 103 → t r = h r) ∧ (∀ j, j < 48 → t 103 j = h 103 (48 + j)) := by
  obtain ⟨t, l1, f1, f2⟩ := loopN_fx (fun z_ : Int32 × Hp => K_M_river_L172 N z_.1 z_.2) (fun i s => ∃ g, s = (nI i, g) ∧ (∀ r, r ≠ 103 → g r = h r) ∧ (∀ j, j < i → g 103 j = h 103 (48 + j)) ∧ ∀ j, 48 ≤ j → g 103 j = h 103 j) 48 (fun t => (∀ r, r ≠ 103 → t r = h r) ∧ ∀ j, j < 48 → t 103 j = h 103 (48 + j)) (fun i s hi hJ => by
      obtain ⟨g, e, f1, f2, f3⟩ := hJ
      subst e
      refine ⟨(nI (i + 1), hset g 103 i (h 103 (48 + i))), ?_, _, rfl, fun r hr => (hset_ne _ _ _ hr).trans (f1 r hr), fun j hj => ?_, fun j hj => by rw [hset_at, upd_ne _ _ (by omega)]; exact f3 j hj⟩
      · show K_M_river_L172 N (nI i) g = _
        unfold K_M_river_L172
        rw [if_neg (show ¬ (48 : Int32) ≤ nI i from fun q => by have := (nI_le_iff (a := 48) (by omega) (by omega)).mp q; omega), show (48 : Int32) + nI i = nI (48 + i) from nI_add 48 i, gA_nI (by omega) (by omega), sA_nI (by omega) (by omega), nI_cl (by omega), nm_s, show nI i + 1 = nI (i + 1) from nI_add i 1, nm_s, f3 (48 + i) (by omega)]
      · rw [hset_at]
        by_cases c : j = i
        · rw [c, upd_at]
        · rw [upd_ne _ _ c]; exact f2 j (by omega)) (fun s hJ => by
      obtain ⟨g, e, f1, f2, f3⟩ := hJ
      subst e
      refine ⟨g, ?_, f1, f2⟩
      show K_M_river_L172 N (nI 48) g = _
      unfold K_M_river_L172
      rw [if_pos (by decide)]) (s0 := (0, h)) ⟨h, rfl, fun _ _ => rfl, fun j hj => absurd hj (Nat.not_lt_zero _), fun _ _ => rfl⟩ (N := N) (by omega)
  exact ⟨t, l1, f1, f2⟩
theorem cp104 (N : Nat) (hN : 200 < N) (h : Hp) : ∃ t, loopN (fun z_ : Int32 × Hp => K_M_river_L201 N z_.1 z_.2) N (0, h) = some t ∧ (∀ r, r ≠ 104 → t r = h r) ∧ (∀ j, j < 12 → t 104 j = h 104 (12 + j)) := by
  obtain ⟨t, l1, f1, f2⟩ := loopN_fx (fun z_ : Int32 × Hp => K_M_river_L201 N z_.1 z_.2) (fun i s => ∃ g, s = (nI i, g) ∧ (∀ r, r ≠ 104 → g r = h r) ∧ (∀ j, j < i → g 104 j = h 104 (12 + j)) ∧ ∀ j, 12 ≤ j → g 104 j = h 104 j) 12 (fun t => (∀ r, r ≠ 104 → t r = h r) ∧ ∀ j, j < 12 → t 104 j = h 104 (12 + j)) (fun i s hi hJ => by
      obtain ⟨g, e, f1, f2, f3⟩ := hJ
      subst e
      refine ⟨(nI (i + 1), hset g 104 i (h 104 (12 + i))), ?_, _, rfl, fun r hr => (hset_ne _ _ _ hr).trans (f1 r hr), fun j hj => ?_, fun j hj => by rw [hset_at, upd_ne _ _ (by omega)]; exact f3 j hj⟩
      · show K_M_river_L201 N (nI i) g = _
        unfold K_M_river_L201
        rw [if_neg (show ¬ (12 : Int32) ≤ nI i from fun q => by have := (nI_le_iff (a := 12) (by omega) (by omega)).mp q; omega), show (12 : Int32) + nI i = nI (12 + i) from nI_add 12 i, gA_nI (by omega) (by omega), sA_nI (by omega) (by omega), nI_cl (by omega), nm_s, show nI i + 1 = nI (i + 1) from nI_add i 1, nm_s, f3 (12 + i) (by omega)]
      · rw [hset_at]
        by_cases c : j = i
        · rw [c, upd_at]
        · rw [upd_ne _ _ c]; exact f2 j (by omega)) (fun s hJ => by
      obtain ⟨g, e, f1, f2, f3⟩ := hJ
      subst e
      refine ⟨g, ?_, f1, f2⟩
      show K_M_river_L201 N (nI 12) g = _
      unfold K_M_river_L201
      rw [if_pos (by decide)]) (s0 := (0, h)) ⟨h, rfl, fun _ _ => rfl, fun j hj => absurd hj (Nat.not_lt_zero _), fun _ _ => rfl⟩ (N := N) (by omega)
  exact ⟨t, l1, f1, f2⟩
theorem cp105 (N : Nat) (hN : 200 < N) (h : Hp) : ∃ t, loopN (fun z_ : Int32 × Hp => K_M_river_L230 N z_.1 z_.2) N (0, h) = some t ∧ (∀ r, r ≠ 105 → t r = h r) ∧ (∀ j, j < 8 → t 105 j = h 105 (8 + j)) := by
  obtain ⟨t, l1, f1, f2⟩ := loopN_fx (fun z_ : Int32 × Hp => K_M_river_L230 N z_.1 z_.2) (fun i s => ∃ g, s = (nI i, g) ∧ (∀ r, r ≠ 105 → g r = h r) ∧ (∀ j, j < i → g 105 j = h 105 (8 + j)) ∧ ∀ j, 8 ≤ j → g 105 j = h 105 j) 8 (fun t => (∀ r, r ≠ 105 → t r = h r) ∧ ∀ j, j < 8 → t 105 j = h 105 (8 + j)) (fun i s hi hJ => by
      obtain ⟨g, e, f1, f2, f3⟩ := hJ
      subst e
      refine ⟨(nI (i + 1), hset g 105 i (h 105 (8 + i))), ?_, _, rfl, fun r hr => (hset_ne _ _ _ hr).trans (f1 r hr), fun j hj => ?_, fun j hj => by rw [hset_at, upd_ne _ _ (by omega)]; exact f3 j hj⟩
      · show K_M_river_L230 N (nI i) g = _
        unfold K_M_river_L230
        rw [if_neg (show ¬ (8 : Int32) ≤ nI i from fun q => by have := (nI_le_iff (a := 8) (by omega) (by omega)).mp q; omega), show (8 : Int32) + nI i = nI (8 + i) from nI_add 8 i, gA_nI (by omega) (by omega), sA_nI (by omega) (by omega), nI_cl (by omega), nm_s, show nI i + 1 = nI (i + 1) from nI_add i 1, nm_s, f3 (8 + i) (by omega)]
      · rw [hset_at]
        by_cases c : j = i
        · rw [c, upd_at]
        · rw [upd_ne _ _ c]; exact f2 j (by omega)) (fun s hJ => by
      obtain ⟨g, e, f1, f2, f3⟩ := hJ
      subst e
      refine ⟨g, ?_, f1, f2⟩
      show K_M_river_L230 N (nI 8) g = _
      unfold K_M_river_L230
      rw [if_pos (by decide)]) (s0 := (0, h)) ⟨h, rfl, fun _ _ => rfl, fun j hj => absurd hj (Nat.not_lt_zero _), fun _ _ => rfl⟩ (N := N) (by omega)
  exact ⟨t, l1, f1, f2⟩
theorem endM {k : Nat} {a : St} {m f : Hp} (hV : VS k a) (hM : IM a m) {g0 g1 : Hp} (fr : TFr g0 m g1 f) {ρ : Rv} {H : Nat → Bool} (hW : WF ρ) (h5 : f 100 5 = HV H) (hR : RH ρ (H 2 = true) f) (h0 : H 0 = false → rW ρ = 0 ∧ ∀ j, j < 8 → H j = false) (h1 : H 0 = true → rW ρ ≠ 0) (h10 : f 100 10 = 0) (h11 : f 100 11 = -1) (N : Nat) (hN : 200 < N) : ∃ f', K_M_river_J89 N f = some (nI (rW ρ * rH ρ), f') ∧ IM (aNw a ρ) f' := by
  obtain ⟨_, f2, f3, _⟩ := fr
  have hw2 : rW ρ = 0 ∨ H 0 = true := by
    cases z : H 0
    · exact .inl (h0 z).1
    · exact .inr rfl
  have hR1 : RH ρ (H 2 = true) (hset f 100 7 0) := RH_of (hset_ne _ _ _ (by decide)) (hset_ne _ _ _ (by decide)) (hset_ne _ _ _ (by decide)) hR
  obtain ⟨t, l1, l2, l3, l4, l5⟩ := firstM hW (H := H) (f := hset f 100 7 0) (by rw [hset_at, upd_ne _ _ (by decide)]; exact h5) hR1 (fun z => (h0 z).2) h1 hw2 N hN
  obtain ⟨t1, a1, a2, a3⟩ := cp103 N hN t
  obtain ⟨t2, b1, b2, b3⟩ := cp104 N hN t1
  obtain ⟨t3, c1, c2, c3⟩ := cp105 N hN t2
  have d4 : ∀ j, j < 12 → t3 104 j = t 104 (12 + j) := fun j hj => by rw [c2 104 (by decide), b3 j hj, a2 104 (by decide)]
  have d3 : ∀ j, j < 48 → t3 103 j = f 103 (48 + j) := fun j hj => by rw [c2 103 (by decide), b2 103 (by decide), a3 j hj, l2 103 (by decide), hset_ne _ _ _ (by decide)]
  have d5 : ∀ j, j < 8 → t3 105 j = f 105 (8 + j) := fun j hj => by rw [c3 j hj, b2 105 (by decide), a2 105 (by decide), l2 105 (by decide), hset_ne _ _ _ (by decide)]
  have d6 : ∀ j, j < 12 → j ≠ 6 → t3 104 j = f 104 (12 + j) := fun j hj hn => by rw [d4 j hj, l3 _ (by omega), hset_ne _ _ _ (by decide)]
  have dr : ∀ r, r ∉ ([103, 104, 105] : List Nat) → t3 r = (hset f 100 7 0) r := fun r hr => by rw [c2 r (ne_of_nm hr (by decide)), b2 r (ne_of_nm hr (by decide)), a2 r (ne_of_nm hr (by decide)), l2 r (ne_of_nm hr (by decide))]
  obtain ⟨⟨r0, r1, r2, r3, r4, r5⟩, ⟨r6, r7⟩, ⟨r8, r9⟩, r10, r11, _⟩ := hR
  have e0 : t3 104 0 = nI (rW ρ) := (d6 0 (by decide) (by decide)).trans r0
  have e1 : t3 104 1 = nI (rH ρ) := (d6 1 (by decide) (by decide)).trans r1
  have sq : K_M_squares 12 (hset f 100 7 0) = some (nI (rW ρ * rH ρ)) := by
    unfold K_M_squares
    rw [gA_lit (x := 12) (i := 12) rfl (by decide) (by decide), hset_ne _ _ _ (by decide), r0, gA_lit (x := 12 + 1) (i := 13) rfl (by decide) (by decide), r1, nI_mul]
  have w := WH_b hW
  refine ⟨hset (hset (hset (hset (hset (hset (hset (hset t3 101 0 (t3 104 6)) 101 1 (t3 104 7)) 101 2 0) 100 26 0) 100 32 0) 100 16 0) 102 0 0) 102 1 0, ?_, ?_⟩
  · unfold K_M_river_J89
    rw [nm_s, hset_at, upd_ne _ _ (by decide), h10, if_pos (by decide), sq, bd_s, nm_s, l1, bd_s]
    unfold K_M_river_J170
    rw [a1, bd_s, b1, bd_s, c1, bd_s, gA_lit (x := 6) (i := 6) rfl (by decide) (by decide), sA_lit (x := 0) (i := 0) rfl (by decide) (by decide), show Int32.toNatClampNeg 0 = 0 from rfl, nm_s, hset_ne _ _ _ (show (104 : Nat) ≠ 101 by decide), gA_lit (x := 7) (i := 7) rfl (by decide) (by decide), sA_lit (x := 1) (i := 1) rfl (by decide) (by decide), show Int32.toNatClampNeg 1 = 1 from rfl, nm_s, sA_lit (x := 2) (i := 2) rfl (by decide) (by decide), show Int32.toNatClampNeg 2 = 2 from rfl, nm_s, nm_s, nm_s, nm_s, sA_lit (x := 0) (i := 0) rfl (by decide) (by decide), nm_s, sA_lit (x := 1) (i := 1) rfl (by decide) (by decide), nm_s]
    have : K_M_squares 0 (hset (hset (hset (hset (hset (hset (hset (hset t3 101 0 (t3 104 6)) 101 1 (t3 104 7)) 101 2 0) 100 26 0) 100 32 0) 100 16 0) 102 0 0) 102 1 0) = some (nI (rW ρ * rH ρ)) := by
      unfold K_M_squares
      rw [gA_lit (x := 0) (i := 0) rfl (by decide) (by decide), gA_lit (x := 0 + 1) (i := 1) rfl (by decide) (by decide), show (hset (hset (hset (hset (hset (hset (hset (hset t3 101 0 (t3 104 6)) 101 1 (t3 104 7)) 101 2 0) 100 26 0) 100 32 0) 100 16 0) 102 0 0) 102 1 0) 104 = t3 104 from rfl, e0, e1, nI_mul]
    rw [this, bd_s]
  · have x104 : (hset (hset (hset (hset (hset (hset (hset (hset t3 101 0 (t3 104 6)) 101 1 (t3 104 7)) 101 2 0) 100 26 0) 100 32 0) 100 16 0) 102 0 0) 102 1 0) 104 = t3 104 := rfl
    have x103 : (hset (hset (hset (hset (hset (hset (hset (hset t3 101 0 (t3 104 6)) 101 1 (t3 104 7)) 101 2 0) 100 26 0) 100 32 0) 100 16 0) 102 0 0) 102 1 0) 103 = t3 103 := rfl
    have x105 : (hset (hset (hset (hset (hset (hset (hset (hset t3 101 0 (t3 104 6)) 101 1 (t3 104 7)) 101 2 0) 100 26 0) 100 32 0) 100 16 0) 102 0 0) 102 1 0) 105 = t3 105 := rfl
    have x100 : (hset (hset (hset (hset (hset (hset (hset (hset t3 101 0 (t3 104 6)) 101 1 (t3 104 7)) 101 2 0) 100 26 0) 100 32 0) 100 16 0) 102 0 0) 102 1 0) 100 = upd (upd (upd (upd (f 100) 7 0) 26 0) 32 0) 16 0 := by
      rw [hset_ne _ _ _ (by decide), hset_ne _ _ _ (by decide), hset_at, hset_at, hset_at, hset_ne _ _ _ (by decide), hset_ne _ _ _ (by decide), hset_ne _ _ _ (by decide), dr 100 (by decide), hset_at]
    have x101 : (hset (hset (hset (hset (hset (hset (hset (hset t3 101 0 (t3 104 6)) 101 1 (t3 104 7)) 101 2 0) 100 26 0) 100 32 0) 100 16 0) 102 0 0) 102 1 0) 101 = upd (upd (upd (m 101) 0 (t3 104 6)) 1 (t3 104 7)) 2 0 := by
      rw [hset_ne _ _ _ (by decide), hset_ne _ _ _ (by decide), hset_ne _ _ _ (by decide), hset_ne _ _ _ (by decide), hset_ne _ _ _ (by decide), hset_at, hset_at, hset_at, dr 101 (by decide), hset_ne _ _ _ (by decide), f2 101 (by decide)]
    have x102 : (hset (hset (hset (hset (hset (hset (hset (hset t3 101 0 (t3 104 6)) 101 1 (t3 104 7)) 101 2 0) 100 26 0) 100 32 0) 100 16 0) 102 0 0) 102 1 0) 102 = upd (upd (m 102) 0 0) 1 0 := by
      rw [hset_at, hset_at, hset_ne _ _ _ (by decide), hset_ne _ _ _ (by decide), hset_ne _ _ _ (by decide), hset_ne _ _ _ (by decide), hset_ne _ _ _ (by decide), hset_ne _ _ _ (by decide), dr 102 (by decide), hset_ne _ _ _ (by decide), f2 102 (by decide)]
    generalize (hset (hset (hset (hset (hset (hset (hset (hset t3 101 0 (t3 104 6)) 101 1 (t3 104 7)) 101 2 0) 100 26 0) 100 32 0) 100 16 0) 102 0 0) 102 1 0 : Hp) = G at x100 x101 x102 x103 x104 x105 ⊢
    have q4 : ∀ j, j < 12 → j ≠ 6 → G 104 j = f 104 (12 + j) := fun j hj hn => by rw [x104]; exact d6 j hj hn
    obtain ⟨hrm, c2', c3', c4', c5', c6', c7', c8', c9', c10'⟩ := hM
    refine ⟨⟨(q4 0 (by decide) (by decide)).trans r0, (q4 1 (by decide) (by decide)).trans r1, (q4 2 (by decide) (by decide)).trans r2, (q4 3 (by decide) (by decide)).trans r3, (q4 4 (by decide) (by decide)).trans r4, (q4 5 (by decide) (by decide)).trans r5, (q4 8 (by decide) (by decide)).trans r6, (q4 9 (by decide) (by decide)).trans r7, (q4 10 (by decide) (by decide)).trans r8, (q4 11 (by decide) (by decide)).trans r9, fun s hs => ?_, fun j hj => ?_⟩, ?_, ⟨?_, fun j hj => absurd hj (Nat.not_lt_zero _)⟩, ?_, ⟨?_, ?_, ?_, ?_⟩, ⟨?_, fun j hj => absurd hj (Nat.not_lt_zero _)⟩, ⟨?_, fun j hj => absurd hj (Nat.not_lt_zero _)⟩, ⟨?_, fun j hj => absurd hj (Nat.not_lt_zero _)⟩, ?_, ?_⟩
    · have hs : inR ρ s := hs
      have b := (cM_b hW hs).1
      show G 103 (cM ρ s) = nI (kd ρ s)
      rw [x103, d3 _ (by omega)]
      exact r10 s hs
    · rw [x105, d5 j hj]; exact r11 j hj
    · rw [x100, upd_ne _ _ (by decide), upd_ne _ _ (by decide), upd_ne _ _ (by decide), upd_ne _ _ (by decide), f3 12 (by decide)]; exact c2'
    · rw [x100, upd_ne _ _ (by decide), upd_ne _ _ (by decide), upd_ne _ _ (by decide), upd_at]; rfl
    · show G 100 11 = -1
      rw [x100, upd_ne _ _ (by decide), upd_ne _ _ (by decide), upd_ne _ _ (by decide), upd_ne _ _ (by decide)]; exact h11
    · rw [x101, upd_ne _ _ (by decide), upd_ne _ _ (by decide), upd_at, d4 6 (by decide)]
      exact l4
    · rw [x101, upd_ne _ _ (by decide), upd_at, d4 7 (by decide)]
      exact l5
    · rw [x101, upd_at]; rfl
    · rw [x101, upd_ne _ _ (by decide), upd_ne _ _ (by decide), upd_ne _ _ (by decide)]
      exact c5'.2.2.2
    · rw [x100, upd_at]; rfl
    · rw [x100, upd_ne _ _ (by decide), upd_ne _ _ (by decide), upd_at]; rfl
    · rw [x100, upd_ne _ _ (by decide), upd_at]; rfl
    · show G 102 0 = 0
      rw [x102, upd_ne _ _ (by decide), upd_at]
    · show G 102 1 = 0
      rw [x102, upd_at]
theorem MO_river_ok (N : Nat) (hN : 2000 < N) : MO_river N Inv := by
  intro k b0 b1 h hk ⟨a, hV, hC, hM, h4, h5⟩
  have hX : okX (sT a) := ⟨by have := hV.2.1.1; omega, hV.2.1.2⟩
  have n64 : (sT a).length ≤ 64 := hX.1
  obtain ⟨g1, fA, u1, _, u3, u4⟩ := bothJ hX N (by omega) (h := h) (m := h) hC.1 hM.2.2.1
  have up : ∀ {h1 h2 : Hp} {a' : St}, IC (k + 1) a' h1 → h1 31 = h 31 → h1 32 = h 32 → IM a' h2 → IC (k + 1) a' (mx lM h2 (mx lC h1 h)) ∧ IM a' (mx lM h2 (mx lC h1 h)) := fun q1 q2 q3 q4 => ⟨IC_same (Nat.le_refl _) (fun r hr => mxM_ne _ _ (fun z => by
    have := lM_ge r z
    revert hr this; revert r; unfold clR; decide)) (IC_mx q2 q3 q1), IM_M q4⟩
  -- what the class does settles where the reference begins
  have again : ∀ (r : Int32) (h1 : Hp), K_C_river N h = some (r, h1) → ∃ f', K_M_river N (mx lC h1 h) = K_M_river_J89 N f' ∧ TFr (rs0 h (sT a).length) (mx lC h1 h) g1 f' ∧ ((∃ p' H' ρ', TSt (sT a) (-1) p' H' ρ' g1 f') ∨ FE g1 f') := fun r h1 _ => by
    have hm := (IM_C (h1 := h1) hM).2.2.1
    obtain ⟨g2, fB, v1, v2, v3, v4⟩ := bothJ hX N (by omega) (h := h) (m := mx lC h1 h) hC.1 hm
    have e : g2 = g1 := Option.some.inj (v1.symm.trans u1)
    subst e
    exact ⟨fB, v2, v3, v4⟩
  have fin : ∀ (r : Int32) (h1 : Hp), K_C_river N h = some (r, h1) → ∃ (r2 : Int32) (h1 h2 : Hp) (d0 d1 : Bool), K_C_river N h = some (r2, h1) ∧ K_M_river N (mx lC h1 h) = some (r2, h2) ∧ (d0 = true → b0 = true) ∧ (d1 = true → b1 = true) ∧ Inv (k + 1) d0 d1 (mx lM h2 (mx lC h1 h)) := fun r h1 e1 => by
    obtain ⟨fB, v2, v3, v4⟩ := again r h1 e1
    rcases v4 with ⟨p', H', ρ', ⟨x1, x2⟩, ⟨y1, y2⟩, hW, hR, hH, y3, y4⟩ | ⟨F, P, z1, z2, z3, z4, z5, z6⟩
    · obtain ⟨g, w1, w2, w3, w4⟩ := okC n64 hC N hN u1 u3.1 hW hR x1.2.2.1 x1.2.2.2
      have e : (nI (rW ρ' * rH ρ'), g) = (r, h1) := Option.some.inj (w1.symm.trans e1)
      obtain ⟨eA, eB⟩ := Prod.mk.inj e
      subst eB
      obtain ⟨f', m1, m2⟩ := endM hV (IM_C (h1 := g) hM) v3 hW y2 hH y3 y4 x2.2.1 x2.2.2 N (by omega)
      obtain ⟨i1, i2⟩ := up w2 w3 w4 m2
      exact ⟨_, g, f', false, false, w1, v2.trans m1, fun z => absurd z (by decide), fun z => absurd z (by decide), aNw a ρ', VS_N hV hW, i1, i2, rfl, rfl⟩
    · obtain ⟨g, w1, w2, w3, w4⟩ := badC n64 hC N u1 u3.1 ⟨z1, z2⟩ z3 z4
      have e : (-10 - nI F, g) = (r, h1) := Option.some.inj (w1.symm.trans e1)
      obtain ⟨eA, eB⟩ := Prod.mk.inj e
      subst eB
      obtain ⟨f', m1, m2⟩ := badM hV (IM_C (h1 := g) hM) v3 ⟨z1, z2⟩ z5 z6 N
      obtain ⟨i1, i2⟩ := up w2 w3 w4 m2
      exact ⟨_, g, f', b0, b1, w1, v2.trans m1, fun z => z, fun z => z, aFl a P, VS_F hV P, i1, i2, h4, h5⟩
  rcases u4 with ⟨p', H', ρ', ⟨x1, x2⟩, ⟨y1, y2⟩, hW, hR, hH, y3, y4⟩ | ⟨F, P, z1, z2, z3, z4, z5, z6⟩
  · obtain ⟨g, w1, _⟩ := okC n64 hC N hN u1 u3.1 hW hR x1.2.2.1 x1.2.2.2
    exact fin _ _ w1
  · obtain ⟨g, w1, _⟩ := badC n64 hC N u1 u3.1 ⟨z1, z2⟩ z3 z4
    exact fin _ _ w1
