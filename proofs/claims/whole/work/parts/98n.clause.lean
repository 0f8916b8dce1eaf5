/-! what a clause tells, on either side -/
def sv (ρ : Rv) (i v : Nat) : Rv := (fun j => if j = i then v else ρ.1 j, ρ.2.1, ρ.2.2)
/-- the reference's half under way; bt: the boat is told -/
def RH (ρ : Rv) (bt : Prop) (f : Hp) : Prop := (f 104 12 = nI (rW ρ) ∧ f 104 13 = nI (rH ρ) ∧ f 104 14 = nI (rF ρ) ∧ f 104 15 = nI (rB ρ) ∧ f 104 16 = nI (rT ρ) ∧ f 104 17 = nI (rP ρ)) ∧
  (f 104 20 = (if rG ρ = 0 then -1 else nI (cM ρ (rG ρ - 1))) ∧ f 104 21 = (if rG ρ = 0 then -1 else nI (rGh ρ))) ∧ (f 104 22 = iI ((rWw ρ : Int) - 1) ∧ f 104 23 = nI (rWe ρ)) ∧
  (∀ s, inR ρ s → f 103 (48 + cM ρ s) = nI (kd ρ s)) ∧ (∀ j, j < 8 → f 105 (8 + j) = nI (hbt ρ j)) ∧
  (bt → f 104 18 = nI (cM ρ (rS ρ / 8)) ∧ f 104 19 = nI (rS ρ % 8)) ∧ (¬ bt → (f 104 18 = 0 ∧ f 104 19 = 0) ∧ (rW ρ ≠ 0 → rS ρ % 8 = 0 ∧ ∀ s, s < rS ρ / 8 → kd ρ s = 1))
theorem RH_of {ρ : Rv} {bt : Prop} {f f' : Hp} (e3 : f' 103 = f 103) (e4 : f' 104 = f 104) (e5 : f' 105 = f 105) (h : RH ρ bt f) : RH ρ bt f' := by
  unfold RH at h ⊢
  rw [e3, e4, e5]
  exact h
/-- what else a clause leaves -/
def frK (g g' : Hp) : Prop := (∀ r, r ∉ ([70, 10, 11, 12] : List Nat) → g' r = g r) ∧ g' 70 4 = g 70 4
/-- the half that stands is not touched -/
def hfM (f f' : Hp) : Prop := (∀ j, j < 48 → f' 103 j = f 103 j) ∧ (∀ j, j < 12 → f' 104 j = f 104 j) ∧ ∀ j, j < 8 → f' 105 j = f 105 j
theorem hfM_trans {f f' f2 : Hp} (a : hfM f f') (b : hfM f' f2) : hfM f f2 := ⟨fun j hj => (b.1 j hj).trans (a.1 j hj), fun j hj => (b.2.1 j hj).trans (a.2.1 j hj), fun j hj => (b.2.2 j hj).trans (a.2.2 j hj)⟩
theorem hfM_of {f f' : Hp} (e3 : f' 103 = f 103) (e4 : f' 104 = f 104) (e5 : f' 105 = f 105) : hfM f f' := ⟨fun j _ => by rw [e3], fun j _ => by rw [e4], fun j _ => by rw [e5]⟩
def frR (f f' : Hp) : Prop := (∀ r, r ∉ ([100, 103, 104, 105] : List Nat) → f' r = f r) ∧ (∀ x, x ∉ ([8, 9, 10, 11] : List Nat) → f' 100 x = f 100 x) ∧ hfM f f'
theorem frR_refl (f : Hp) : frR f f := ⟨fun _ _ => rfl, fun _ _ => rfl, hfM_of rfl rfl rfl⟩
theorem frK_N {g g' : Hp} (h : frN g g') : frK g g' := ⟨fun r hr => h.1 r (ne_of_nm hr (by decide)), h.2 4 (by decide)⟩
theorem frR_M {f f' : Hp} (h : frM f f') : frR f f' := ⟨fun r hr => h.1 r (ne_of_nm hr (by decide)), h.2, hfM_of (h.1 103 (by decide)) (h.1 104 (by decide)) (h.1 105 (by decide))⟩
theorem frK_trans {f f' f2 : Hp} (a : frK f f') (b : frK f' f2) : frK f f2 := ⟨fun r hr => (b.1 r hr).trans (a.1 r hr), b.2.trans a.2⟩
theorem frR_trans {f f' f2 : Hp} (a : frR f f') (b : frR f' f2) : frR f f2 := ⟨fun r hr => (b.1 r hr).trans (a.1 r hr), fun x hx => (b.2.1 x hx).trans (a.2.1 x hx), hfM_trans a.2.2 b.2.2⟩
theorem frK_set {f f' : Hp} (a : frK f f') {r : Nat} (hr : r ∈ ([10, 11, 12] : List Nat)) (x : Nat) (v : Int32) : frK f (hset f' r x v) := by
  have n70 : (70 : Nat) ≠ r := fun z => by subst z; revert hr; decide
  exact ⟨fun q hq => (hset_ne _ _ _ (fun z => hq (by subst z; exact List.mem_cons_of_mem _ hr))).trans (a.1 q hq), by rw [hset_ne _ _ _ n70]; exact a.2⟩
theorem frR_set {f f' : Hp} (a : frR f f') {r : Nat} (hr : r ∈ ([103, 104, 105] : List Nat)) (x : Nat) (v : Int32) (hx : (r = 103 → 48 ≤ x) ∧ (r = 104 → 12 ≤ x) ∧ (r = 105 → 8 ≤ x)) : frR f (hset f' r x v) := by
  have n : (100 : Nat) ≠ r := fun z => by subst z; revert hr; decide
  refine ⟨fun q hq => (hset_ne _ _ _ (fun z => hq (by subst z; exact List.mem_cons_of_mem _ hr))).trans (a.1 q hq), fun y hy => by rw [hset_ne _ _ _ n]; exact a.2.1 y hy, ⟨fun j hj => ?_, fun j hj => ?_, fun j hj => ?_⟩⟩
  · refine Eq.trans ?_ (a.2.2.1 j hj)
    by_cases c : r = 103
    · have := hx.1 c
      subst c
      rw [hset_at, upd_ne _ _ (by omega)]
    · rw [hset_ne _ _ _ (fun z => c z.symm)]
  · refine Eq.trans ?_ (a.2.2.2.1 j hj)
    by_cases c : r = 104
    · have := hx.2.1 c
      subst c
      rw [hset_at, upd_ne _ _ (by omega)]
    · rw [hset_ne _ _ _ (fun z => c z.symm)]
  · refine Eq.trans ?_ (a.2.2.2.2 j hj)
    by_cases c : r = 105
    · have := hx.2.2 c
      subst c
      rw [hset_at, upd_ne _ _ (by omega)]
    · rw [hset_ne _ _ _ (fun z => c z.symm)]
theorem frR_100 {f f' : Hp} (a : frR f f') {x : Nat} (hx : x ∈ ([8, 9, 10, 11] : List Nat)) (v : Int32) : frR f (hset f' 100 x v) := ⟨fun r hr => (hset_ne _ _ _ (ne_of_nm hr (by decide))).trans (a.1 r hr), fun y hy => by rw [hset_at, upd_ne _ _ (ne_of_nm hy hx)]; exact a.2.1 y hy, hfM_trans a.2.2 (hfM_of (hset_ne _ _ _ (by decide)) (hset_ne _ _ _ (by decide)) (hset_ne _ _ _ (by decide)))⟩
theorem JJ_of {tx : List Nat} {F : Nat} {P : Int32} {p : Nat} {g f g' f' : Hp} (e1 : g' 70 = g 70) (e2 : g' 2 = g 2) (e3 : f' 100 = f 100) (e4 : f' 106 = f 106) (h : JJ tx F P p g f) : JJ tx F P p g' f' := by
  unfold JJ cLx mLx at h ⊢
  rw [e1, e2, e3, e4]
  exact h
/-- the class writes what it has read, and so does the reference -/
theorem JJ_w {tx : List Nat} {F : Nat} {P : Int32} {p : Nat} {g f : Hp} (h : JJ tx F P p g f) (x y : Nat) (u v : Int32) : JJ tx F P p (hset g 10 x u) (hset f 104 y v) := JJ_of (hset_ne _ _ _ (by decide)) (hset_ne _ _ _ (by decide)) (hset_ne _ _ _ (by decide)) (hset_ne _ _ _ (by decide)) h
theorem squareJ {tx : List Nat} (hX : okX tx) {P : Int32} {p : Nat} {g f : Hp} (h : JJ tx 0 P p g f) (N : Nat) (hN : 200 < N) {ρ : Rv} (hW : WF ρ) (h0 : rW ρ ≠ 0) (hR : RC ρ g) {bt : Prop} (hM : RH ρ bt f) : ∃ s y g' f' F' P' p', K_Reader_readSquare N g = some (nI s, g') ∧ K_M_takeSquare N f = some (y, f') ∧ JJ tx F' P' p' g' f' ∧ frN g g' ∧ frM f f' ∧ s < 48 ∧ (F' = 0 → P' = P ∧ okS ρ s ∧ y = nI (cM ρ s)) := by
  have w1 := hW.1
  have w2 := hW.2.1
  have w0 : rH ρ ≠ 0 := fun z => h0 (hW.2.2.1.mpr z)
  obtain ⟨x1, v1, g1, f1, F1, P1, p1, a1, a2, a3, a4, a5, a6, a7, a8, a9⟩ := numJ hX h N hN (lo := 0) (hi := rW ρ - 1) (by omega) (by omega)
  obtain ⟨x2, v2, g2, f2, F2, P2, p2, b1, b2, b3, b4, b5, b6, b7, b8, b9⟩ := numJ hX a3 N hN (lo := 0) (hi := rH ρ - 1) (by omega) (by omega)
  have a1 : K_Reader_readNumber N 0 (nI (rW ρ - 1)) g = some (nI x1, g1) := a1
  have a2 : K_M_takeNumber N 0 (nI (rW ρ - 1)) f = some (v1, f1) := a2
  have b1 : K_Reader_readNumber N 0 (nI (rH ρ - 1)) g1 = some (nI x2, g2) := b1
  have b2 : K_M_takeNumber N 0 (nI (rH ρ - 1)) f1 = some (v2, f2) := b2
  have s48 : x2 * 8 + x1 < 48 := by omega
  have d8 : (x2 * 8 + x1) / 8 = x2 := by omega
  have m8 : (x2 * 8 + x1) % 8 = x1 := by omega
  have fg := frN_trans a4 b4
  have ff := frM_trans a5 b5
  have e12 : f2 104 12 = nI (rW ρ) := by rw [ff.1 104 (by decide)]; exact hM.1.1
  have kK : K_Reader_readSquare N g = bd (some (nI (kd ρ (x2 * 8 + x1)))) (fun v42 => if v42 = 1 then (bd (K_Reader_fail 4 (g2 70 5) g2) <| fun h55 => some (nI (x2 * 8 + x1), h55)) else ( some (nI (x2 * 8 + x1), g2))) := by
    unfold K_Reader_readSquare
    rw [hR.1, show nI (rW ρ) - 1 = nI (rW ρ - 1) from nI_sub (b := 1) (by omega), a1, bd2_s, show g1 10 = g 10 from a4.1 10 (by decide), hR.2.1, show nI (rH ρ) - 1 = nI (rH ρ - 1) from nI_sub (b := 1) (by omega), b1, bd2_s, show nI x2 * 8 + nI x1 = nI (x2 * 8 + x1) by rw [show (8 : Int32) = nI 8 from rfl, nI_mul, nI_add], nm_s]
    unfold K_River_kindOf
    rw [if_neg (nI_not_neg (by omega)), if_neg (show ¬ (48 : Int32) ≤ nI (x2 * 8 + x1) from fun z => by have := (nI_le_iff (a := 48) (by omega) (by omega)).mp z; omega), gA_nI (by omega) (by omega), show g2 11 = g 11 from fg.1 11 (by decide), hR.2.2.2.2.2.2.2.2.2.2.2.1 _ s48]
  have kM : K_M_takeSquare N f = if f2 100 10 = 0 then (gA 96 (f2 103) (48 + (v2 * nI (rW ρ) + v1)) <| fun v58 => if v58 = 1 then ( K_M_takeSquare_J68 N (v2 * nI (rW ρ) + v1) 0 f2) else ( K_M_takeSquare_J68 N (v2 * nI (rW ρ) + v1) 1 f2)) else ( some (0, f2)) := by
    unfold K_M_takeSquare
    rw [gA_lit (x := 12) (i := 12) rfl (by decide) (by decide), hM.1.1, show nI (rW ρ) - 1 = nI (rW ρ - 1) from nI_sub (b := 1) (by omega), a2, bd2_s, gA_lit (x := 13) (i := 13) rfl (by decide) (by decide), show f1 104 = f 104 from a5.1 104 (by decide), hM.1.2.1, show nI (rH ρ) - 1 = nI (rH ρ - 1) from nI_sub (b := 1) (by omega), b2, bd2_s, gA_lit (x := 12) (i := 12) rfl (by decide) (by decide), e12, nm_s]
  have kle : kd ρ (x2 * 8 + x1) ≤ 6 := hW.2.2.2.2.2.2.2.2.2.2.2.2.1 _
  have kif : nI (kd ρ (x2 * 8 + x1)) = 1 ↔ kd ρ (x2 * 8 + x1) = 1 := nI_eq_iff (b := 1) (by omega) (by omega)
  rw [kK, kM, bd_s]
  have c2 := b3
  obtain ⟨q1, q2, q3, q4, q5, q6, q7⟩ := c2
  by_cases cF : F2 = 0
  · subst cF
    obtain ⟨r1, r2, r3⟩ := b8 rfl
    obtain ⟨r4, r5, r6⟩ := a8 r1
    obtain ⟨b, bb, r7, r8⟩ := b9 rfl
    have ir : inR ρ (x2 * 8 + x1) := ⟨by rw [m8]; omega, by rw [d8]; omega⟩
    have cmb := (cM_b hW ir).1
    have whb := WH_b hW
    have ey : v2 * nI (rW ρ) + v1 = nI (cM ρ (x2 * 8 + x1)) := by
      rw [r3, r6, nI_mul, nI_add]
      unfold cM
      rw [d8, m8, Nat.mul_comm]
    rw [if_pos (show f2 100 10 = 0 from q5), ey, show (48 : Int32) + nI (cM ρ (x2 * 8 + x1)) = nI (48 + cM ρ (x2 * 8 + x1)) from nI_add 48 _, gA_nI (by omega) (by omega), show f2 103 = f 103 from ff.1 103 (by decide), hM.2.2.2.1 _ ir]
    by_cases ck : kd ρ (x2 * 8 + x1) = 1
    · have mx2 : mX tx P2 p2 f2 := ⟨q7 rfl, q5, q6⟩
      obtain ⟨g3, z1, z2, z3, z4, z5⟩ := failX (tx := tx) (F := 0) (P := P2) (p := p2) (g := g2) ⟨q1, q2, q3, q4⟩ (n := 4) (q := b) (by omega)
      have z1 : K_Reader_fail 4 (nI b) g2 = some g3 := z1
      have ef : ffl 0 P2 4 b = (4, nI b) := rfl
      rw [ef] at z3
      rw [if_pos (kif.mpr ck), if_pos (kif.mpr ck), r7, z1, bd_s]
      unfold K_M_takeSquare_J68
      rw [r8, show (4 : Int32) = nI 4 from rfl, want0 q5 (by omega), bd2_s, if_pos rfl]
      exact ⟨_, 0, g3, _, 4, nI b, p2, rfl, rfl, ⟨z3.1, z3.2.1, z3.2.2.1, z3.2.2.2, by rw [hset_at, upd_ne _ _ (by decide), hset_at, upd_at], by rw [hset_at, upd_at], fun z => absurd z (by decide)⟩, frN_trans fg z2, frM_set (frM_set ff (by decide) _) (by decide) _, s48, fun z => absurd z (by decide)⟩
    · rw [if_neg (fun z => ck (kif.mp z)), if_neg (fun z => ck (kif.mp z))]
      unfold K_M_takeSquare_J68
      rw [want1 q5, bd2_s, if_neg (by decide)]
      exact ⟨_, _, g2, f2, 0, P2, p2, rfl, rfl, b3, fg, ff, s48, fun _ => ⟨r2.trans r5, ⟨s48, ck⟩, rfl⟩⟩
  · rw [if_neg (show ¬ f2 100 10 = 0 from fun z => by rw [q5] at z; exact cF ((nI_eq_iff (b := 0) (by omega) (by omega)).mp z))]
    by_cases ck : kd ρ (x2 * 8 + x1) = 1
    · have q5b : ∃ b, g2 70 5 = b := ⟨_, rfl⟩
      have z1 : K_Reader_fail 4 (g2 70 5) g2 = some g2 := by
        unfold K_Reader_fail
        rw [q3, if_neg (show ¬ nI F2 = 0 from fun z => cF ((nI_eq_iff (b := 0) (by omega) (by omega)).mp z))]
      rw [if_pos (kif.mpr ck), z1, bd_s]
      exact ⟨_, 0, g2, f2, F2, P2, p2, rfl, rfl, b3, fg, ff, s48, fun z => absurd z cF⟩
    · rw [if_neg (fun z => ck (kif.mp z))]
      exact ⟨_, 0, g2, f2, F2, P2, p2, rfl, rfl, b3, fg, ff, s48, fun z => absurd z cF⟩
/-- what a clause ends with -/
def CE (tx : List Nat) (P : Int32) (bt : Prop) (g f g' f' : Hp) : Prop := frK g g' ∧ frR f f' ∧ ∃ F' P' p', JJ tx F' P' p' g' f' ∧ (F' = 0 → P' = P ∧ ∃ ρ', WF ρ' ∧ rW ρ' ≠ 0 ∧ RC ρ' g' ∧ RH ρ' bt f')
