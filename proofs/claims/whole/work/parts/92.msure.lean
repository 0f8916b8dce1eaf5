/-! surely: the reference's table; both answer alike -/
def hI (ρ : Rv) (u : Nat) : Nat := 8 * cM ρ (u / 8) + u % 8
theorem hI_lt {ρ : Rv} (hW : WF ρ) {u : Nat} (h : inR ρ (u / 8)) : hI ρ u < 8 * (rW ρ * rH ρ) ∧ hI ρ u < 384 ∧ hI ρ u / 8 = cM ρ (u / 8) ∧ hI ρ u % 8 = u % 8 := by
  have a := (cM_b hW h).1
  have b := WH_b hW
  unfold hI
  omega
theorem hI_inj {ρ : Rv} (hW : WF ρ) {u v : Nat} (hu : inR ρ (u / 8)) (hv : inR ρ (v / 8)) (e : hI ρ u = hI ρ v) : u = v := by
  have a := hI_lt hW hu
  have b := hI_lt hW hv
  have := cM_inj hW hu hv (by rw [← a.2.2.1, ← b.2.2.1, e])
  omega
/-- the spot of a number of the reference's -/
def dH (ρ : Rv) (s : Nat) : Nat := 8 * (8 * (s / 8 / rW ρ) + s / 8 % rW ρ) + s % 8
theorem dH_ok {ρ : Rv} (hW : WF ρ) (w : rW ρ ≠ 0) {s : Nat} (h : s < 8 * (rW ρ * rH ρ)) : inR ρ (dH ρ s / 8) ∧ dH ρ s < 384 ∧ hI ρ (dH ρ s) = s := by
  have w1 := hW.1
  have w2 := hW.2.1
  have r := Nat.mod_lt (s / 8) (by omega : 0 < rW ρ)
  have q : s / 8 / rW ρ < rH ρ := Nat.div_lt_of_lt_mul (by omega)
  have dm := Nat.div_add_mod (s / 8) (rW ρ)
  unfold hI cM inR dH
  generalize s / 8 % rW ρ = y at r dm ⊢
  generalize s / 8 / rW ρ = x at q dm ⊢
  rw [show (8 * (8 * x + y) + s % 8) / 8 = 8 * x + y by omega, show (8 * (8 * x + y) + s % 8) % 8 = s % 8 by omega, show (8 * x + y) % 8 = y by omega, show (8 * x + y) / 8 = x by omega, dm]
  omega
def vT (ρ : Rv) (n b : Nat) (h : Hp) : Prop := ∀ u, u < 384 → okS ρ (u / 8) → h 111 (hI ρ u) = nI (if sD ρ u < n ∨ (sD ρ u = n ∧ hI ρ u < b) then sD ρ u else 99999999)
def vV (ρ : Rv) (n b u : Nat) : Nat := if sD ρ u < n ∨ (sD ρ u = n ∧ hI ρ u < b) then sD ρ u else 99999999
theorem vV_b (ρ : Rv) (n b u : Nat) : vV ρ n b u ≤ 99999999 ∧ sD ρ u ≤ vV ρ n b u := by
  have := sD_b ρ u
  unfold vV
  split <;> omega
theorem vV_le {ρ : Rv} {n b u j : Nat} (hj : j < n) (hn : n ≤ 31) : vV ρ n b u ≤ j ↔ sD ρ u ≤ j := by
  have := sD_b ρ u
  unfold vV
  split <;> omega
/-- the worse of gust and none -/
def mV (ρ : Rv) (n b u p : Nat) : Nat := if vV ρ n b (cal ρ 0 u p) ≤ vV ρ n b (gus ρ (cal ρ 0 u p)) then vV ρ n b (gus ρ (cal ρ 0 u p)) else vV ρ n b (cal ρ 0 u p)
theorem mV_b (ρ : Rv) (n b u p : Nat) : mV ρ n b u p ≤ 99999999 := by
  have a := vV_b ρ n b (cal ρ 0 u p)
  have c := vV_b ρ n b (gus ρ (cal ρ 0 u p))
  unfold mV
  split <;> omega
theorem mV_le {ρ : Rv} {n b u p j : Nat} (hj : j < n) (hn : n ≤ 31) (h30 : j ≤ 30) : mV ρ n b u p ≤ j ↔ sP ρ j u p = true := by
  have a := vV_le (ρ := ρ) (b := b) (u := cal ρ 0 u p) hj hn
  have c := vV_le (ρ := ρ) (b := b) (u := gus ρ (cal ρ 0 u p)) hj hn
  rw [sP_iff h30]
  unfold mV
  split <;> omega
/-- none is better than n, if it is more than n -/
theorem mV_ge {ρ : Rv} {n b u p j : Nat} (hp : p < 16) (hj : j < n) (hn : n ≤ 31) (h30 : j ≤ 30) (h : j < sD ρ u) : j ≤ mV ρ n b u p := by
  by_cases c : j ≤ mV ρ n b u p
  · exact c
  · exfalso
    obtain ⟨i, rfl⟩ : ∃ i, j = i + 1 := ⟨j - 1, by omega⟩
    have a := (mV_le (ρ := ρ) (b := b) (u := u) (p := p) (j := i) (by omega) hn (by omega)).mp (by omega)
    unfold sP at a
    rw [Bool.and_eq_true] at a
    have := (sD_le (ρ := ρ) (u := u) (n := i + 1) (by omega)).mpr (srw_s.mpr (.inr ⟨p, hp, a.1, a.2⟩))
    omega
theorem worstM {a : St} {h g : Hp} (hW : WF (sR a)) (N : Nat) (hN : 200 < N) (hM : IM a h) (hg : sameM h g) (ww : rWw (sR a) ≠ 0) {u n b p : Nat} (hu : u < 384) (hs : okS (sR a) (u / 8)) (hp : p < 16) (hT : vT (sR a) n b g) : ∃ g', K_M_worst N (nI (hI (sR a) u)) (nI (p / 4)) (nI (p % 4)) g = some (nI (mV (sR a) n b u p), g') ∧ sameM h g' ∧ g' 111 = g 111 := by
  obtain ⟨q1, q2, q3⟩ := IM_keep hM hg
  have hin := okS_in hW hs
  obtain ⟨l1, l2, l3, l4⟩ := hI_lt hW hin
  have c1 := cal_okS (p := p) hs
  have c2 := gus_okS c1.1
  have hd := dd_lt (u % 8) (trI (sR a) 0 p)
  have k4 := hW.2.2.2.2.2.2.2.2.2.1
  have e1 : cal (sR a) 0 u p / 8 = pu (sR a) (u / 8) (dd (u % 8) (trI (sR a) 0 p)) (psI (sR a) 0 p) := by unfold cal; omega
  have e2 : cal (sR a) 0 u p % 8 = dd (u % 8) (trI (sR a) 0 p) := by unfold cal; omega
  have hin1 := okS_in hW c1.1
  have hin2 := okS_in hW c2.1
  have t1 := hI_lt hW hin1
  have t2 := hI_lt hW hin2
  have e3 : gus (sR a) (cal (sR a) 0 u p) / 8 = nb (sR a) (cal (sR a) 0 u p / 8) (2 * (rWw (sR a) - 1)) := by
    unfold gus bl
    rw [if_neg ww]
    omega
  have e4 : gus (sR a) (cal (sR a) 0 u p) % 8 = cal (sR a) 0 u p % 8 := by unfold gus; omega
  have sn := sameM_nx g (dd (u % 8) (trI (sR a) 0 p)) (cM (sR a) (pu (sR a) (u / 8) (dd (u % 8) (trI (sR a) 0 p)) (psI (sR a) 0 p)))
  have r2 := (IM_keep hM (sameM_tr hg sn)).2.1
  refine ⟨nx g (dd (u % 8) (trI (sR a) 0 p)) (cM (sR a) (pu (sR a) (u / 8) (dd (u % 8) (trI (sR a) 0 p)) (psI (sR a) 0 p))), ?_, sameM_tr hg sn, nx_ne _ _ _ (by decide)⟩
  have e104 : nx g (dd (u % 8) (trI (sR a) 0 p)) (cM (sR a) (pu (sR a) (u / 8) (dd (u % 8) (trI (sR a) 0 p)) (psI (sR a) 0 p))) 104 10 = nI (rWw (sR a) - 1) := by
    rw [r2.2.2.2.2.2.2.2.2.1, nI_iI]; congr 1; omega
  have g1 := hT _ c1.2 c1.1
  have g2 := hT _ c2.2 c2.1
  have x1 : nI (8 * cM (sR a) (cal (sR a) 0 u p / 8) + cal (sR a) 0 u p % 8) = nI (hI (sR a) (cal (sR a) 0 u p)) := rfl
  have x2 : nI (8 * cM (sR a) (nb (sR a) (cal (sR a) 0 u p / 8) (2 * (rWw (sR a) - 1))) + cal (sR a) 0 u p % 8) = nI (hI (sR a) (gus (sR a) (cal (sR a) 0 u p))) := by
    unfold hI; rw [e3, e4]
  have b1 := vV_b (sR a) n b (cal (sR a) 0 u p)
  have b2 := vV_b (sR a) n b (gus (sR a) (cal (sR a) 0 u p))
  unfold K_M_worst
  rw [show (8 : Int32) = nI 8 from rfl, nI_div (by omega) (by omega) (by omega), nI_rem (by omega) (by omega) (by omega), l3, l4, strokeFromM hW N (by omega) q2 (kn := 0) (by omega) q3 hin (by omega) hp, bd_s, nx_13, nx_14, nx_ne _ _ _ (by decide), nI_mul, nI_add, ← e1, ← e2, x1, gA_nI (by omega) (by omega), gA_lit (x := 10) (i := 10) rfl (by omega) (by omega)]
  rw [← e1, ← e2] at e104 r2
  rw [e104, drivenM hW r2 hin1 (by omega), bd_s, nI_mul, nI_add, x2, gA_nI (by omega) (by omega), g1, g2]
  show (if nI (vV (sR a) n b (cal (sR a) 0 u p)) ≤ nI (vV (sR a) n b (gus (sR a) (cal (sR a) 0 u p))) then some (nI (vV (sR a) n b (gus (sR a) (cal (sR a) 0 u p))), _) else some (nI (vV (sR a) n b (cal (sR a) 0 u p)), _)) = some (nI (mV (sR a) n b u p), _)
  unfold mV
  have k1 : nI (vV (sR a) n b (cal (sR a) 0 u p)) ≤ nI (vV (sR a) n b (gus (sR a) (cal (sR a) 0 u p))) ↔ vV (sR a) n b (cal (sR a) 0 u p) ≤ vV (sR a) n b (gus (sR a) (cal (sR a) 0 u p)) := nI_le_iff (by omega) (by omega)
  by_cases c : vV (sR a) n b (cal (sR a) 0 u p) ≤ vV (sR a) n b (gus (sR a) (cal (sR a) 0 u p))
  · rw [if_pos (k1.mpr c), if_pos c]
  · rw [if_neg (fun z => c (k1.mp z)), if_neg c]
theorem vT_of {ρ : Rv} {n b : Nat} {h h' : Hp} (e : h' 111 = h 111) (H : vT ρ n b h) : vT ρ n b h' := by unfold vT at H ⊢; rw [e]; exact H
theorem leastWorstM {a : St} {h g : Hp} (hW : WF (sR a)) (N : Nat) (hN : 200 < N) (hM : IM a h) (hg : sameM h g) (ww : rWw (sR a) ≠ 0) {u n b : Nat} (hu : u < 384) (hs : okS (sR a) (u / 8)) (hT : vT (sR a) n b g) : ∃ v g', K_M_leastWorst N (nI (hI (sR a) u)) g = some (nI v, g') ∧ sameM h g' ∧ g' 111 = g 111 ∧ v ≤ 99999999 ∧ (∀ p, p < 16 → v ≤ mV (sR a) n b u p) ∧ (v = 99999999 ∨ ∃ p, p < 16 ∧ v = mV (sR a) n b u p) := by
  obtain ⟨t, l1, v, g', e, f1, f2, f3, f4, f5⟩ := loopN_fx (fun z_ : Int32 × Int32 × Hp => K_M_leastWorst_L5 N (nI (hI (sR a) u)) z_.1 z_.2.1 z_.2.2) (fun i s => ∃ v g', s = (nI v, nI i, g') ∧ sameM h g' ∧ g' 111 = g 111 ∧ v ≤ 99999999 ∧ (∀ p, p < i → v ≤ mV (sR a) n b u p) ∧ (v = 99999999 ∨ ∃ p, p < i ∧ v = mV (sR a) n b u p)) 16 (fun t => ∃ v g', t = (nI v, g') ∧ sameM h g' ∧ g' 111 = g 111 ∧ v ≤ 99999999 ∧ (∀ p, p < 16 → v ≤ mV (sR a) n b u p) ∧ (v = 99999999 ∨ ∃ p, p < 16 ∧ v = mV (sR a) n b u p)) (fun i s hi hJ => by
      obtain ⟨v, g1, e, f1, f2, f3, f4, f5⟩ := hJ
      subst e
      obtain ⟨g2, z1, z2, z3⟩ := worstM hW N hN hM f1 ww hu hs hi (vT_of f2 hT)
      have mb := mV_b (sR a) n b u i
      have k1 : nI v ≤ nI (mV (sR a) n b u i) ↔ v ≤ mV (sR a) n b u i := nI_le_iff (by omega) (by omega)
      show ∃ s', K_M_leastWorst_L5 N (nI (hI (sR a) u)) (nI v) (nI i) g1 = some (.inl s') ∧ _
      unfold K_M_leastWorst_L5 K_M_leastWorst_J36
      rw [if_neg (fun q => by have := (nI_le_iff (a := 16) (by omega) (by omega)).mp q; omega), show (4 : Int32) = nI 4 from rfl, nI_div (by omega) (by omega) (by omega), nI_rem (by omega) (by omega) (by omega), z1, bd2_s, show nI i + 1 = nI (i + 1) from nI_add i 1, nm_s, nm_s]
      by_cases c : v ≤ mV (sR a) n b u i
      · rw [if_pos (k1.mpr c)]
        refine ⟨_, rfl, v, g2, rfl, z2, z3.trans f2, f3, fun p hp => ?_, ?_⟩
        · by_cases d : p = i
          · rw [d]; exact c
          · exact f4 p (by omega)
        · rcases f5 with q | ⟨p, q1, q2⟩
          · exact .inl q
          · exact .inr ⟨p, by omega, q2⟩
      · rw [if_neg (fun q => c (k1.mp q))]
        refine ⟨_, rfl, mV (sR a) n b u i, g2, rfl, z2, z3.trans f2, mb, fun p hp => ?_, .inr ⟨i, by omega, rfl⟩⟩
        by_cases d : p = i
        · rw [d]; exact Nat.le_refl _
        · have := f4 p (by omega); omega) (fun s hJ => by
      obtain ⟨v, g1, e, f⟩ := hJ
      subst e
      refine ⟨(nI v, g1), ?_, v, g1, rfl, f⟩
      show K_M_leastWorst_L5 N (nI (hI (sR a) u)) (nI v) (nI 16) g1 = _
      unfold K_M_leastWorst_L5
      rw [if_pos (by decide)]) (s0 := (99999999, 0, g)) ⟨99999999, g, rfl, hg, rfl, Nat.le_refl _, fun p hp => absurd hp (Nat.not_lt_zero _), .inl rfl⟩ (N := N) (by omega)
  subst e
  refine ⟨v, g', ?_, f1, f2, f3, f4, f5⟩
  unfold K_M_leastWorst
  rw [l1, bd_s]
theorem sameM_111 {h g : Hp} (e : sameM h g) {r k : Nat} (hr : r ∈ ([108, 109, 110, 111, 113] : List Nat)) (v : Int32) : sameM h (hset g r k v) := by
  refine sameM_tr e ⟨fun q hq => hset_ne _ _ _ (fun z => ?_), fun f _ => ?_⟩
  · subst z; revert hq hr; revert q; decide
  · rw [hset_ne _ _ _ (fun z => ?_)]
    subst z; revert hr; decide
theorem squaresM {a : St} {h g : Hp} (hM : IM a h) (e : sameM h g) : K_M_squares 0 g = some (nI (rW (sR a) * rH (sR a))) := by
  obtain ⟨q1, q2, q3⟩ := IM_keep hM e
  unfold K_M_squares
  rw [gA_lit (x := 0) (i := 0) rfl (by omega) (by omega), gA_lit (x := 0 + 1) (i := 1) (by decide) (by omega) (by omega), q2.1, q2.2.1, nI_mul]
/-- one pass of the reference -/
theorem passM {a : St} {h g : Hp} (hW : WF (sR a)) (N : Nat) (hN : 1000 < N) (hM : IM a h) (hg : sameM h g) (w : rW (sR a) ≠ 0) (ww : rWw (sR a) ≠ 0) {j : Nat} (hj : j < 30) (hT : vT (sR a) (j + 1) 0 g) : ∃ g', loopN (fun z_ : Int32 × Hp => K_M_findSure_L64 N (nI (8 * (rW (sR a) * rH (sR a)))) (nI (j + 1)) z_.1 z_.2) N (0, g) = some g' ∧ sameM h g' ∧ vT (sR a) (j + 2) 0 g' := by
  have wh := WH_b hW
  obtain ⟨t, l1, f1, f2⟩ := loopN_fx (fun z_ : Int32 × Hp => K_M_findSure_L64 N (nI (8 * (rW (sR a) * rH (sR a)))) (nI (j + 1)) z_.1 z_.2) (fun i s => ∃ g', s = (nI i, g') ∧ sameM h g' ∧ vT (sR a) (j + 1) i g') (8 * (rW (sR a) * rH (sR a))) (fun t => sameM h t ∧ vT (sR a) (j + 1) (8 * (rW (sR a) * rH (sR a))) t) (fun i s hi hJ => by
      obtain ⟨g1, e, f1, f2⟩ := hJ
      subst e
      obtain ⟨d1, d2, d3⟩ := dH_ok hW w hi
      obtain ⟨q1, q2, q3⟩ := IM_keep hM f1
      have k6 : kd (sR a) (dH (sR a) i / 8) ≤ 6 := hW.2.2.2.2.2.2.2.2.2.2.2.2.1 _
      have e8 : i / 8 = cM (sR a) (dH (sR a) i / 8) := by
        have := (hI_lt hW d1).2.2.1
        rw [d3] at this
        exact this
      have hcl := cM_lt hW d1
      -- nothing changes but perhaps the place itself
      have keep : ∀ g2 : Hp, sameM h g2 → g2 111 = g1 111 → (okS (sR a) (dH (sR a) i / 8) → sD (sR a) (dH (sR a) i) ≠ j + 1) → ∃ s', K_M_findSure_J125 N (nI (8 * (rW (sR a) * rH (sR a)))) (nI (j + 1)) (nI i) (nI i) g2 = some (.inl s') ∧ ∃ g', s' = (nI (i + 1), g') ∧ sameM h g' ∧ vT (sR a) (j + 1) (i + 1) g' := by
        intro g2 s1 s2 s3
        unfold K_M_findSure_J125 K_M_findSure_J131
        rw [gA_nI (by omega) (by omega), sA_nI (by omega) (by omega), nI_cl (by omega), nm_s, hset_id rfl, show nI i + 1 = nI (i + 1) from nI_add i 1, nm_s]
        refine ⟨_, rfl, g2, rfl, s1, fun u hu hs => ?_⟩
        rw [s2, f2 u hu hs]
        congr 1
        have e1 : (sD (sR a) u < j + 1 ∨ sD (sR a) u = j + 1 ∧ hI (sR a) u < i) ↔ (sD (sR a) u < j + 1 ∨ sD (sR a) u = j + 1 ∧ hI (sR a) u < i + 1) := by
          by_cases c : hI (sR a) u = i
          · have := hI_inj hW (okS_in hW hs) d1 (c.trans d3.symm)
            have n := s3 (this ▸ hs)
            rw [← this] at n
            omega
          · omega
        simp only [e1]
      show ∃ s', K_M_findSure_L64 N (nI (8 * (rW (sR a) * rH (sR a)))) (nI (j + 1)) (nI i) g1 = some (.inl s') ∧ _
      unfold K_M_findSure_L64 K_M_findSure_J97
      rw [if_neg (fun q => by have := (nI_le_iff (by omega) (by omega)).mp q; omega), gA_nI (by omega) (by omega), show (8 : Int32) = nI 8 from rfl, nI_div (by omega) (by omega) (by omega), e8, gA_nI (by omega) (by omega), q2.2.2.2.2.2.2.2.2.2.2.1 _ d1]
      unfold K_M_findSure_J98
      rw [if_pos (show (0 : Int32) = 0 from rfl), if_neg (show ¬ (1 : Int32) = 0 by decide)]
      by_cases hs : okS (sR a) (dH (sR a) i / 8)
      · have hk : ¬ nI (kd (sR a) (dH (sR a) i / 8)) = 1 := fun q => hs.2 ((nI_eq_iff (b := 1) (by omega) (by omega)).mp q)
        have sb := sD_b (sR a) (dH (sR a) i)
        have ev := f2 _ d2 hs
        rw [d3] at ev
        by_cases c : sD (sR a) (dH (sR a) i) < j + 1
        · rw [ev, if_pos (show sD (sR a) (dH (sR a) i) < j + 1 ∨ sD (sR a) (dH (sR a) i) = j + 1 ∧ i < i from .inl c), if_neg (fun q => by have := (nI_eq_iff (b := 99999999) (by omega) (by omega)).mp q; omega)]
          exact keep g1 f1 rfl (fun _ => by omega)
        · rw [ev, if_neg (show ¬ (sD (sR a) (dH (sR a) i) < j + 1 ∨ sD (sR a) (dH (sR a) i) = j + 1 ∧ i < i) by omega), if_pos (show nI 99999999 = 99999999 from rfl), if_neg hk]
          obtain ⟨v, g2, z1, z2, z3, z4, z5, z6⟩ := leastWorstM hW N (by omega) hM f1 ww d2 hs f2
          rw [d3] at z1
          have st := sD_step (ρ := sR a) (n := j) (u := dH (sR a) i) (by omega) (by omega)
          have ge : ∀ p, p < 16 → j ≤ mV (sR a) (j + 1) i (dH (sR a) i) p := fun p hp => mV_ge hp (by omega) (by omega) (by omega) (by omega)
          rw [z1, bd2_s, show nI (j + 1) - 1 = nI j from by rw [show (1 : Int32) = nI 1 from rfl, nI_sub (by omega)]; rfl]
          by_cases c2 : v = j
          · rw [if_pos (congrArg nI c2)]
            have d : sD (sR a) (dH (sR a) i) = j + 1 := st.mpr (by
              rcases z6 with q | ⟨p, p1, p2⟩
              · omega
              · exact ⟨p, p1, (mV_le (by omega) (by omega) (by omega)).mp (by omega : mV (sR a) (j + 1) i (dH (sR a) i) p ≤ j)⟩)
            unfold K_M_findSure_J131
            rw [sA_nI (by omega) (by omega), nI_cl (by omega), nm_s, show nI i + 1 = nI (i + 1) from nI_add i 1, nm_s]
            refine ⟨_, rfl, _, rfl, sameM_111 z2 (by decide) _, fun u hu hsu => ?_⟩
            rw [hset_at]
            by_cases c3 : hI (sR a) u = i
            · have := hI_inj hW (okS_in hW hsu) d1 (c3.trans d3.symm)
              rw [c3, upd_at, this, d, if_pos (show j + 1 < j + 1 ∨ j + 1 = j + 1 ∧ i < i + 1 by omega)]
            · rw [upd_ne _ _ c3, z3, f2 u hu hsu]
              congr 1
              have e1 : (sD (sR a) u < j + 1 ∨ sD (sR a) u = j + 1 ∧ hI (sR a) u < i) ↔ (sD (sR a) u < j + 1 ∨ sD (sR a) u = j + 1 ∧ hI (sR a) u < i + 1) := by omega
              simp only [e1]
          · rw [if_neg (fun q => c2 ((nI_eq_iff (by omega) (by omega)).mp q))]
            refine keep g2 z2 z3 (fun _ d => ?_)
            obtain ⟨p, p1, p2⟩ := st.mp d
            have := (mV_le (ρ := sR a) (n := j + 1) (b := i) (by omega) (by omega) (by omega)).mpr p2
            have := z5 p p1
            rcases z6 with q | ⟨p', p1', p2'⟩
            · omega
            · have := ge p' p1'
              omega
      · have hk : nI (kd (sR a) (dH (sR a) i / 8)) = 1 := by
          have : kd (sR a) (dH (sR a) i / 8) = 1 := by
            by_cases c : kd (sR a) (dH (sR a) i / 8) = 1
            · exact c
            · exact absurd ⟨by omega, c⟩ hs
          rw [this]; rfl
        rw [if_pos hk]
        have kp := keep g1 f1 rfl (fun q => absurd q hs)
        by_cases c : g1 111 i = 99999999
        · rw [if_pos c]; exact kp
        · rw [if_neg c]; exact kp) (fun s hJ => by
      obtain ⟨g1, e, f1, f2⟩ := hJ
      subst e
      refine ⟨g1, ?_, f1, f2⟩
      show K_M_findSure_L64 N (nI (8 * (rW (sR a) * rH (sR a)))) (nI (j + 1)) (nI _) g1 = _
      unfold K_M_findSure_L64
      rw [if_pos ((nI_le_iff (by omega) (by omega)).mpr (Nat.le_refl _))]) (s0 := (0, g)) ⟨g, rfl, hg, hT⟩ (N := N) (by omega)
  refine ⟨t, l1, f1, fun u hu hs => ?_⟩
  rw [f2 u hu hs]
  congr 1
  have := (hI_lt hW (okS_in hW hs)).1
  have e1 : (sD (sR a) u < j + 1 ∨ sD (sR a) u = j + 1 ∧ hI (sR a) u < 8 * (rW (sR a) * rH (sR a))) ↔ (sD (sR a) u < j + 2 ∨ sD (sR a) u = j + 2 ∧ hI (sR a) u < 0) := by omega
  simp only [e1]
theorem findSureM {a : St} {h : Hp} (hW : WF (sR a)) (N : Nat) (hN : 1000 < N) (hM : IM a h) (w : rW (sR a) ≠ 0) (ww : rWw (sR a) ≠ 0) : ∃ g, K_M_findSure N h = some g ∧ sameM h g ∧ vT (sR a) 31 0 g := by
  have wh := WH_b hW
  have e12 : hset h 100 12 0 = h := hset_id hM.2.1
  obtain ⟨t1, l1, f1, f2⟩ := loopN_fx (fun z_ : Int32 × Hp => K_M_findSure_L16 N (nI (8 * (rW (sR a) * rH (sR a)))) z_.1 z_.2) (fun i s => ∃ g', s = (nI i, g') ∧ sameM h g' ∧ ∀ u, u < 384 → okS (sR a) (u / 8) → hI (sR a) u < i → g' 111 (hI (sR a) u) = nI (if isG (sR a) u = true then 0 else 99999999)) (8 * (rW (sR a) * rH (sR a))) (fun t => sameM h t ∧ vT (sR a) 1 0 t) (fun i s hi hJ => by
      obtain ⟨g1, e, f1, f2⟩ := hJ
      subst e
      obtain ⟨d1, d2, d3⟩ := dH_ok hW w hi
      obtain ⟨q1, q2, q3⟩ := IM_keep hM f1
      have e8 := hI_lt hW d1
      rw [d3] at e8
      refine ⟨(nI (i + 1), hset g1 111 i (nI (if isG (sR a) (dH (sR a) i) = true then 0 else 99999999))), ?_, _, rfl, sameM_111 f1 (by decide) _, fun u hu hs hl => ?_⟩
      · show K_M_findSure_L16 N (nI (8 * (rW (sR a) * rH (sR a)))) (nI i) g1 = _
        unfold K_M_findSure_L16 K_M_findSure_J47
        rw [if_neg (fun q => by have := (nI_le_iff (by omega) (by omega)).mp q; omega), show (8 : Int32) = nI 8 from rfl, nI_div (by omega) (by omega) (by omega), nI_rem (by omega) (by omega) (by omega), e8.2.2.1, e8.2.2.2, isGoalM hW q2 ⟨fun z => absurd z w, fun _ => d1⟩ (by omega), bd_s, sA_nI (by omega) (by omega), sA_nI (by omega) (by omega), nI_cl (by omega), nm_s, nm_s, show nI i + 1 = nI (i + 1) from nI_add i 1, nm_s, nm_s, show 8 * (dH (sR a) i / 8) + dH (sR a) i % 8 = dH (sR a) i by omega]
        by_cases c : isG (sR a) (dH (sR a) i) = true
        · rw [if_pos c, if_neg (by decide), if_pos c]; rfl
        · rw [if_neg c, if_pos rfl, if_neg c]; rfl
      · rw [hset_at]
        by_cases c : hI (sR a) u = i
        · have := hI_inj hW (okS_in hW hs) d1 (c.trans d3.symm)
          rw [c, upd_at, this]
        · rw [upd_ne _ _ c]
          exact f2 u hu hs (by omega)) (fun s hJ => by
      obtain ⟨g1, e, f1, f2⟩ := hJ
      subst e
      refine ⟨g1, ?_, f1, fun u hu hs => ?_⟩
      · show K_M_findSure_L16 N (nI (8 * (rW (sR a) * rH (sR a)))) (nI _) g1 = _
        unfold K_M_findSure_L16
        rw [if_pos ((nI_le_iff (by omega) (by omega)).mpr (Nat.le_refl _))]
      · rw [f2 u hu hs (hI_lt hW (okS_in hW hs)).1]
        have z := sD_0 (ρ := sR a) (u := u)
        congr 1
        by_cases c : isG (sR a) u = true
        · have := z.mpr c
          rw [if_pos c, if_pos (by omega), this]
        · have : ¬ sD (sR a) u = 0 := fun q => c (z.mp q)
          rw [if_neg c, if_neg (by omega)]) (s0 := (0, h)) ⟨h, rfl, sameM_rf h, fun u _ _ hl => absurd hl (Nat.not_lt_zero _)⟩ (N := N) (by omega)
  obtain ⟨t2, l2, f3, f4⟩ := loopN_fx (fun z_ : Int32 × Hp => K_M_findSure_L56 N (nI (8 * (rW (sR a) * rH (sR a)))) z_.1 z_.2) (fun i s => ∃ g', s = (nI (i + 1), g') ∧ sameM h g' ∧ vT (sR a) (i + 1) 0 g') 30 (fun t => sameM h t ∧ vT (sR a) 31 0 t) (fun i s hi hJ => by
      obtain ⟨g1, e, f1, f2⟩ := hJ
      subst e
      obtain ⟨g2, z1, z2, z3⟩ := passM hW N hN hM f1 w ww hi f2
      refine ⟨(nI (i + 2), g2), ?_, g2, rfl, z2, z3⟩
      show K_M_findSure_L56 N (nI (8 * (rW (sR a) * rH (sR a)))) (nI (i + 1)) g1 = _
      unfold K_M_findSure_L56
      rw [if_neg (show ¬ (30 : Int32) < nI (i + 1) from fun q => by have := (nI_lt_iff (a := 30) (by omega) (by omega)).mp q; omega), z1, bd_s, show nI (i + 1) + 1 = nI (i + 2) from nI_add (i + 1) 1, nm_s]) (fun s hJ => by
      obtain ⟨g1, e, f1, f2⟩ := hJ
      subst e
      refine ⟨g1, ?_, f1, f2⟩
      show K_M_findSure_L56 N (nI (8 * (rW (sR a) * rH (sR a)))) (nI (30 + 1)) g1 = _
      unfold K_M_findSure_L56
      rw [if_pos (by decide)]) (s0 := (1, t1)) ⟨t1, rfl, f1, f2⟩ (N := N) (by omega)
  refine ⟨t2, ?_, f3, f4⟩
  unfold K_M_findSure
  rw [nm_s, e12, squaresM hM (sameM_rf h), bd_s, show (8 : Int32) = nI 8 from rfl, nI_mul, nm_s, l1, bd_s, l2, bd_s]
theorem MO_surely_ok (N : Nat) (hN : 1000 < N) : MO_surely N Inv := by
  intro k b0 b1 h x hk H
  have H0 := H
  obtain ⟨a, hv, hC, hM, h4, h5⟩ := H
  have hW := hv.1
  have hM0 := IM_C (h1 := h) hM
  by_cases cx : 0 ≤ x.toInt ∧ x.toInt ≤ 1
  · by_cases w : rW (sR a) = 0
    · refine ⟨-1000000003, h, mx lC h h, ?_, ?_, op_no H0⟩
      · unfold K_C_surely
        rw [out1, bd_s, if_pos cx, if_pos rfl, noSquaresK hW hC.2.2.1.1, bd_s, if_pos w, if_neg (by decide)]
      · unfold K_M_surely
        rw [in1, bd_s, if_pos cx, if_neg (by decide), isNoneM hW hM0.1, bd_s, if_pos w, if_neg (by decide)]
    · obtain ⟨h1, z1, z2, z3, z4⟩ := gustsK hv hC N hN w
      have hu : (sB a).1 < 384 := hv.2.2.1.1.1
      have hs : okS (sR a) ((sB a).1 / 8) := hv.2.2.1.1.2.2 w
      have hC1 : IC (k + 1) a h1 := IC_up (Nat.le_succ k) hC [55] (fun r hr hX => z2 r (fun q => by
          have n1 : r ≠ 55 := ne_of_nm hX (by decide)
          have n2 : r ≠ 56 := ne_of_m hr (by decide)
          simp only [List.mem_cons, List.not_mem_nil, or_false] at q
          omega)) (c12 := .inr (.inr ⟨(sB a).1, hu, hs, z3, z4⟩))
      have hMm := IM_C (h1 := h1) hM
      have k104 : (mx lC h1 h) 104 10 = iI ((rWw (sR a) : Int) - 1) := hMm.1.2.2.2.2.2.2.2.2.1
      have ww4 := hW.2.2.2.2.2.2.2.2.2.1
      have fin : ∀ h2 : Hp, sameM (mx lC h1 h) h2 → Inv (k + 1) b0 b1 (mx lM h2 (mx lC h1 h)) := fun h2 q => op_CM (VS_mono (Nat.le_succ k) hv) hC1 (z2 31 (by decide)) (z2 32 (by decide)) (IM_same q hMm) h4 h5
      have kC : K_C_surely N x h = some (if x = 0 then h1 55 1 else h1 55 2, h1) := by
        unfold K_C_surely
        rw [out1, bd_s, if_pos cx, if_pos rfl, noSquaresK hW hC.2.2.1.1, bd_s, if_neg w, if_pos rfl, hC.2.2.2.1.1, z1, bd_s, nm_s, mx_eq (fun r hr => z2 r (fun q => hr ((by decide : ∀ r ∈ ([55, 56] : List Nat), r ∈ [55, 56, 10, 11, 12, 20, 21, 22, 15, 16, 17]) r q)))]
        by_cases c : x = 0
        · rw [if_pos c, if_pos c]
        · rw [if_neg c, if_neg c]
      rw [kC]
      by_cases w0 : rWw (sR a) = 0
      · have gr : h1 55 1 = -1 ∧ h1 55 2 = -1 := by
          rcases z4 with ⟨q, -⟩ | ⟨-, q⟩
          · exact absurd w0 q
          · exact q
        refine ⟨-1, h1, mx lC h1 h, ?_, ?_, fin _ (sameM_rf _)⟩
        · rw [gr.1, gr.2, ite_self]
        · unfold K_M_surely
          rw [in1, bd_s, if_pos cx, if_neg (by decide), isNoneM hW hMm.1, bd_s, if_neg w, if_pos rfl, gA_lit (x := 10) (i := 10) rfl (by omega) (by omega), k104, w0, if_neg (by decide)]
      · obtain ⟨g, y1, y2, y3⟩ := findSureM hW N hN hMm w w0
        have qI := (IM_keep hMm y2).1
        have mB := qI.2.2.2.2.1
        have hin := okS_in hW hs
        have hl := hI_lt hW hin
        have val := y3 _ hu hs
        have sb := sD_b (sR a) (sB a).1
        have eI : 8 * cM (sR a) ((sB a).1 / 8) + (sB a).1 % 8 = hI (sR a) (sB a).1 := rfl
        have kM : K_M_surely N x (mx lC h1 h) = (if x = 0 then K_M_surely_J77 N x (nI (vV (sR a) 31 0 (sB a).1)) g else if nI (vV (sR a) 31 0 (sB a).1) = 99999999 then K_M_surely_J77 N x (nI (vV (sR a) 31 0 (sB a).1)) g else if nI (vV (sR a) 31 0 (sB a).1) = 0 then K_M_surely_J77 N x (nI (vV (sR a) 31 0 (sB a).1)) g else bd (loopN (fun z_ : Int32 × Hp => K_M_surely_L97 N (nI (hI (sR a) (sB a).1)) (nI (vV (sR a) 31 0 (sB a).1)) z_.1 z_.2) N (0, g)) (fun t97 => some (t97.1, t97.2))) := by
          unfold K_M_surely
          rw [in1, bd_s, if_pos cx, if_neg (by decide), isNoneM hW hMm.1, bd_s, if_neg w, if_pos rfl, gA_lit (x := 10) (i := 10) rfl (by omega) (by omega), k104, if_pos (show (0 : Int32) ≤ iI ((rWw (sR a) : Int) - 1) from (iI_le_iff (a := 0) (by omega) (by omega) (by omega) (by omega)).mpr (by omega)), y1, bd_s, gA_lit (x := 0) (i := 0) rfl (by omega) (by omega), mB.1, gA_lit (x := 1) (i := 1) rfl (by omega) (by omega), show g 101 1 = _ from mB.2.1, show (8 : Int32) = nI 8 from rfl, nI_mul, nI_add, nm_s, eI, gA_nI (by omega) (by omega), val]
          rfl
        suffices hh : ∃ (r : Int32) (h2 : Hp), some (if x = 0 then h1 55 1 else h1 55 2, h1) = some (r, h1) ∧ K_M_surely N x (mx lC h1 h) = some (r, h2) ∧ Inv (k + 1) b0 b1 (mx lM h2 (mx lC h1 h)) by
          obtain ⟨r, h2, a1, a2, a3⟩ := hh
          exact ⟨r, h1, h2, a1, a2, a3⟩
        rw [kM]
        by_cases c31 : sD (sR a) (sB a).1 = 31
        · have gr : h1 55 1 = -1 ∧ h1 55 2 = -1 := by
            rcases z4 with ⟨-, n, q1, q2, -⟩ | ⟨-, q⟩
            · have := (sD_le (ρ := sR a) (u := (sB a).1) q1).mpr q2
              omega
            · exact q
          have ev : vV (sR a) 31 0 (sB a).1 = 99999999 := by unfold vV; rw [if_neg (by omega)]
          refine ⟨-1, g, ?_, ?_, fin g y2⟩
          · rw [gr.1, gr.2, ite_self]
          · rw [ev]
            unfold K_M_surely_J77 K_M_surely_J88
            rw [if_pos (show nI 99999999 = 99999999 from rfl), if_pos (show nI 99999999 = 99999999 from rfl), ite_self]
        · have hsr := (sD_le (ρ := sR a) (u := (sB a).1) (n := 30) (by omega)).mp (by omega)
          obtain ⟨n, q1, q2, q3, q4, q5⟩ : ∃ n, n ≤ 30 ∧ srw (sR a) n (sB a).1 = true ∧ (∀ j, j < n → srw (sR a) j (sB a).1 = false) ∧ h1 55 1 = nI n ∧ h1 55 2 = (if n = 0 then -1 else nI (srp (sR a) (n - 1) (sB a).1)) := by
            rcases z4 with ⟨-, q⟩ | ⟨q, -⟩
            · exact q
            · rcases q with q | q
              · exact absurd q w0
              · rw [hsr] at q; exact absurd q (by decide)
          have en : sD (sR a) (sB a).1 = n := fs_eq (fun n => srw (sR a) n (sB a).1) (by omega) q2 q3
          have ev : vV (sR a) 31 0 (sB a).1 = n := by unfold vV; rw [if_pos (by omega), en]
          rw [ev]
          have nf : ¬ nI n = 99999999 := fun z => by have := (nI_eq_iff (b := 99999999) (by omega) (by omega)).mp z; omega
          by_cases c0 : x = 0
          · refine ⟨nI n, g, ?_, ?_, fin g y2⟩
            · rw [if_pos c0, q4]
            · unfold K_M_surely_J77
              rw [if_pos c0, if_neg nf, if_neg (show ¬ x = 1 by rw [c0]; decide)]
          · have c1 : x = 1 := by
              obtain ⟨i, hi, ei⟩ := nat_of (x := x) (n := 1) cx
              rcases (by omega : i = 0 ∨ i = 1) with e | e
              · subst e; exact absurd ei c0
              · subst e; exact ei
            by_cases n0 : n = 0
            · refine ⟨-1, g, ?_, ?_, fin g y2⟩
              · rw [if_neg c0, q5, if_pos n0]
              · unfold K_M_surely_J77 K_M_surely_J88
                rw [if_neg c0, if_neg nf, if_neg nf, if_pos c1, n0, if_pos (show nI 0 = 0 from rfl)]
            · obtain ⟨j, ej⟩ : ∃ j, n = j + 1 := ⟨n - 1, by omega⟩
              subst ej
              obtain ⟨p, a1, a2⟩ := (sD_step (ρ := sR a) (n := j) (u := (sB a).1) (by omega) (by omega)).mp en
              have fl : fs (sP (sR a) j (sB a).1) 16 < 16 := by
                by_cases c : fs (sP (sR a) j (sB a).1) 16 < 16
                · exact c
                · have := fs_lt (sP (sR a) j (sB a).1) (e := 16) (j := p) (by omega)
                  rw [a2] at this
                  exact absurd this (by decide)
              have fe := fs_at (sP (sR a) j (sB a).1) fl
              obtain ⟨t, l1, g', l2, l3⟩ := loopN_fx (fun z_ : Int32 × Hp => K_M_surely_L97 N (nI (hI (sR a) (sB a).1)) (nI (j + 1)) z_.1 z_.2) (fun i s => ∃ g', s = (nI i, g') ∧ sameM (mx lC h1 h) g' ∧ g' 111 = g 111) (fs (sP (sR a) j (sB a).1) 16) (fun t => ∃ g', sameM (mx lC h1 h) g' ∧ t = (nI (fs (sP (sR a) j (sB a).1) 16), g')) (fun i s hi hJ => by
                  obtain ⟨g1, e, f1, f2⟩ := hJ
                  subst e
                  obtain ⟨g2, w1, w2, w3⟩ := worstM hW N (by omega) hMm f1 w0 (p := i) hu hs (by omega) (vT_of f2 y3)
                  refine ⟨(nI (i + 1), g2), ?_, g2, rfl, w2, w3.trans f2⟩
                  show K_M_surely_L97 N _ _ (nI i) g1 = _
                  unfold K_M_surely_L97
                  have mb := mV_b (sR a) 31 0 (sB a).1 i
                  have ml := mV_le (ρ := sR a) (n := 31) (b := 0) (u := (sB a).1) (p := i) (j := j) (by omega) (by omega) (by omega)
                  have nl := fs_lt (sP (sR a) j (sB a).1) hi
                  rw [show (4 : Int32) = nI 4 from rfl, nI_div (by omega) (by omega) (by omega), nI_rem (by omega) (by omega) (by omega), w1, bd2_s, show nI (j + 1) - 1 = nI j from by rw [show (1 : Int32) = nI 1 from rfl, nI_sub (by omega)]; rfl, if_neg (fun z => by
                    have := (nI_eq_iff (by omega) (by omega)).mp z
                    have := ml.mp (by omega)
                    rw [nl] at this
                    exact absurd this (by decide)), show nI i + 1 = nI (i + 1) from nI_add i 1, nm_s]) (fun s hJ => by
                  obtain ⟨g1, e, f1, f2⟩ := hJ
                  subst e
                  obtain ⟨g2, w1, w2, w3⟩ := worstM hW N (by omega) hMm f1 w0 (p := fs (sP (sR a) j (sB a).1) 16) hu hs fl (vT_of f2 y3)
                  refine ⟨(nI (fs (sP (sR a) j (sB a).1) 16), g2), ?_, g2, w2, rfl⟩
                  show K_M_surely_L97 N _ _ (nI _) g1 = _
                  unfold K_M_surely_L97
                  have ml := (mV_le (ρ := sR a) (n := 31) (b := 0) (u := (sB a).1) (p := fs (sP (sR a) j (sB a).1) 16) (j := j) (by omega) (by omega) (by omega)).mpr fe
                  have mg := mV_ge (ρ := sR a) (n := 31) (b := 0) (u := (sB a).1) (j := j) fl (by omega) (by omega) (by omega) (by omega)
                  rw [show (4 : Int32) = nI 4 from rfl, nI_div (by omega) (by omega) (by omega), nI_rem (by omega) (by omega) (by omega), w1, bd2_s, show nI (j + 1) - 1 = nI j from by rw [show (1 : Int32) = nI 1 from rfl, nI_sub (by omega)]; rfl, if_pos (congrArg nI (by omega))]) (s0 := (0, g)) ⟨g, rfl, y2, rfl⟩ (N := N) (by omega)
              subst l3
              refine ⟨nI (fs (sP (sR a) j (sB a).1) 16), g', ?_, ?_, fin g' l2⟩
              · rw [if_neg c0, q5, if_neg n0, show j + 1 - 1 = j by omega, srp_fs fl]
              · rw [if_neg c0, if_neg nf, if_neg (show ¬ nI (j + 1) = 0 from fun z => by have := (nI_eq_iff (b := 0) (by omega) (by omega)).mp z; omega), l1, bd_s]
  · refine ⟨-1000000002, h, mx lC h h, ?_, ?_, op_no H0⟩
    · unfold K_C_surely
      rw [out1, bd_s, if_neg cx, if_neg (by decide)]
    · unfold K_M_surely
      rw [in1, bd_s, if_neg cx, if_pos rfl]
