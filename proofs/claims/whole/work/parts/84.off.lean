/-! off, best -/
theorem turnMod {d : Nat} (hd : d < 8) {t : Int} (bt : -36 ≤ t ∧ t ≤ 36) : rm32 ((nI d + rm32 (iI t) 8) + 8) 8 = nI (dd d t) := by
  have e8 : (8 : Int32) = iI 8 := rfl
  have b1 : -7 ≤ t - t.tdiv 8 * 8 ∧ t - t.tdiv 8 * 8 ≤ 7 := by
    rcases Int.le_total 0 t with h0 | h0
    · rw [Int.tdiv_eq_ediv_of_nonneg h0]; omega
    · have e : t.tdiv 8 = -((-t) / 8) := by
        rw [← Int.tdiv_eq_ediv_of_nonneg (by omega : 0 ≤ -t), Int.neg_tdiv, Int.neg_neg]
      rw [e]; omega
  have e2 : rm32 (iI t) 8 = iI (t - t.tdiv 8 * 8) := by
    show iI t - iI t / 8 * 8 = _
    rw [e8, iI_div (by omega) (by omega) (by omega) (by omega), iI_mul, iI_sub]
  have e3 : nI d + iI (t - t.tdiv 8 * 8) + 8 = nI (((d : Int) + (t - t.tdiv 8 * 8) + 8).toNat) := by
    rw [nI_iI, iI_add]
    show _ + iI 8 = _
    rw [iI_add, nI_iI]; congr 1; omega
  rw [e2, e3, show rm32 (nI (((d : Int) + (t - t.tdiv 8 * 8) + 8).toNat)) 8 = _ from nI_rem (d := 8) (by omega) (by omega) (by omega)]
  congr 1
  unfold dd
  show _ = (((d : Int) + t) % 8).toNat
  generalize t.tdiv 8 = z at b1 ⊢
  omega
abbrev Ow : Type := Nat × Int × Int
def owS (ρ : Rv) (q : Nat) (z : Ow) : Ow := (dd z.1 (trI ρ 0 (5 * q)), z.2.1 + psI ρ 0 (5 * q) * eI (dd z.1 (trI ρ 0 (5 * q))), z.2.2 + psI ρ 0 (5 * q) * -(sI (dd z.1 (trI ρ 0 (5 * q)))))
def owN (ρ : Rv) (k : Nat) : Nat → Ow
  | 0 => (0, 0, 0)
  | i + 1 => owS ρ (i / k % 2) (owN ρ k i)
theorem mul_b2 {a b : Int} (ha : -2 ≤ a ∧ a ≤ 2) (hb : -1 ≤ b ∧ b ≤ 1) : -2 ≤ a * b ∧ a * b ≤ 2 := by
  rcases (by omega : b = -1 ∨ b = 0 ∨ b = 1) with e | e | e <;> subst e <;> omega
theorem owN_b (ρ : Rv) (k : Nat) : ∀ i : Nat, (owN ρ k i).1 < 8 ∧ (-(2 * (i : Int)) ≤ (owN ρ k i).2.1 ∧ (owN ρ k i).2.1 ≤ 2 * i) ∧ (-(2 * (i : Int)) ≤ (owN ρ k i).2.2 ∧ (owN ρ k i).2.2 ≤ 2 * i)
  | 0 => ⟨by show (0 : Nat) < 8; omega, by show -(2 * ((0 : Nat) : Int)) ≤ (0 : Int) ∧ (0 : Int) ≤ 2 * ((0 : Nat) : Int); omega, by show -(2 * ((0 : Nat) : Int)) ≤ (0 : Int) ∧ (0 : Int) ≤ 2 * ((0 : Nat) : Int); omega⟩
  | i + 1 => by
    obtain ⟨h1, h2, h3⟩ := owN_b ρ k i
    show dd (owN ρ k i).1 (trI ρ 0 (5 * (i / k % 2))) < 8 ∧ (_ ≤ (owN ρ k i).2.1 + psI ρ 0 (5 * (i / k % 2)) * eI (dd (owN ρ k i).1 (trI ρ 0 (5 * (i / k % 2)))) ∧ (owN ρ k i).2.1 + psI ρ 0 (5 * (i / k % 2)) * eI (dd (owN ρ k i).1 (trI ρ 0 (5 * (i / k % 2)))) ≤ _) ∧ (_ ≤ (owN ρ k i).2.2 + psI ρ 0 (5 * (i / k % 2)) * -(sI (dd (owN ρ k i).1 (trI ρ 0 (5 * (i / k % 2))))) ∧ (owN ρ k i).2.2 + psI ρ 0 (5 * (i / k % 2)) * -(sI (dd (owN ρ k i).1 (trI ρ 0 (5 * (i / k % 2))))) ≤ _)
    generalize hd : dd (owN ρ k i).1 (trI ρ 0 (5 * (i / k % 2))) = d
    have ps := psI_b ρ 0 (5 * (i / k % 2))
    have e1 := mul_b2 ps (eI_b d)
    have sb := sI_b d
    have e2 := mul_b2 ps (b := -(sI d)) (by omega)
    generalize psI ρ 0 (5 * (i / k % 2)) * eI d = u at e1 ⊢
    generalize psI ρ 0 (5 * (i / k % 2)) * -(sI d) = v at e2 ⊢
    refine ⟨?_, ?_, ?_⟩
    · rw [← hd]; exact dd_lt _ _
    · omega
    · omega
theorem offC {k : Nat} {a : St} {h : Hp} (hW : WF (sR a)) (hC : IC k a h) (N : Nat) (hN : 200 < N) {q n : Nat} (hq : 1 ≤ q ∧ q ≤ 99) (hn : n ≤ 99) (b : Bool) : K_C_offStraight N (nI q) (nI n) (if b = true then 1 else 0) h = some (iI (if b = true then (owN (sR a) q n).2.1 else (owN (sR a) q n).2.2)) := by
  have hK := hC.2.2.1.2.2
  have l : loopN (fun z_ : Int32 × Int32 × Int32 => K_C_offStraight_L9 N (nI q) (nI n) (if b = true then 1 else 0) z_.1 z_.2.1 z_.2.2 h) N (0, 0, 0) = some (iI (if b = true then (owN (sR a) q n).2.1 else (owN (sR a) q n).2.2)) := by
    have z := loopN_for (fun z_ : Int32 × Int32 × Int32 => K_C_offStraight_L9 N (nI q) (nI n) (if b = true then 1 else 0) z_.1 z_.2.1 z_.2.2 h) (fun i => (nI (owN (sR a) q i).1, iI (if b = true then (owN (sR a) q i).2.1 else (owN (sR a) q i).2.2), nI i)) n (iI (if b = true then (owN (sR a) q n).2.1 else (owN (sR a) q n).2.2)) (fun i hi => ?_) ?_ (N := N) (by omega)
    have e0 : iI (if b = true then (owN (sR a) q 0).2.1 else (owN (sR a) q 0).2.2) = 0 := by cases b <;> rfl
    have z : loopN (fun z_ : Int32 × Int32 × Int32 => K_C_offStraight_L9 N (nI q) (nI n) (if b = true then 1 else 0) z_.1 z_.2.1 z_.2.2 h) N (nI 0, iI (if b = true then (owN (sR a) q 0).2.1 else (owN (sR a) q 0).2.2), nI 0) = _ := z
    rw [e0] at z
    exact z
    · show K_C_offStraight_L9 N (nI q) (nI n) (if b = true then 1 else 0) (nI (owN (sR a) q i).1) (iI (if b = true then (owN (sR a) q i).2.1 else (owN (sR a) q i).2.2)) (nI i) h = _
      have c2 : i / q % 2 = 0 ∨ i / q % 2 = 1 := by omega
      have main : ∀ j, i / q % 2 = j → j < 2 → K_C_offStraight_J34 N (nI q) (nI n) (if b = true then 1 else 0) (nI (owN (sR a) q i).1) (iI (if b = true then (owN (sR a) q i).2.1 else (owN (sR a) q i).2.2)) (nI i) (nI (5 * j)) h = some (.inl (nI (owN (sR a) q (i + 1)).1, iI (if b = true then (owN (sR a) q (i + 1)).2.1 else (owN (sR a) q (i + 1)).2.2), nI (i + 1))) := by
        intro j ej hj
        have e : owN (sR a) q (i + 1) = owS (sR a) j (owN (sR a) q i) := by rw [← ej]; rfl
        rw [e]
        have ob := owN_b (sR a) q i
        generalize owN (sR a) q i = z at ob ⊢
        unfold K_C_offStraight_J34 K_C_offStraight_J82
        have dl := dd_lt z.1 (trI (sR a) 0 (5 * j))
        rw [turnOfK hK (by omega), bd_s, nI_iI z.1, iI_add, and7_iI, nm_s, show (((z.1 : Int) + trI (sR a) 0 (5 * j)).emod 8).toNat = dd z.1 (trI (sR a) 0 (5 * j)) from rfl, pushOfK hK (by omega), bd_s, southK _ (by omega), eastK _ (by omega), bd_s, bd_s, show (1 : Int32) = nI 1 from rfl, nI_add]
        cases b
        · rw [if_pos (by decide), iI_neg, iI_mul, iI_add, nm_s, nm_s]
          rfl
        · rw [if_neg (by decide), iI_mul, iI_add, nm_s, nm_s]
          rfl
      unfold K_C_offStraight_L9
      rw [if_neg (fun z => by have := (nI_le_iff (by omega) (by omega)).mp z; omega), if_neg (fun z => by have := (nI_le_iff (b := 0) (by omega) (by omega)).mp z; omega), dz_nI (by omega) (by omega), nI_div (by omega) (by omega) (by omega), show (2 : Int32) = nI 2 from rfl, nI_rem (by have := Nat.div_le_self i q; omega) (by omega) (by omega)]
      rcases c2 with c | c
      · rw [c, if_neg (by decide)]
        unfold K_C_offStraight_J33
        exact main 0 c (by omega)
      · rw [c, if_pos (show nI 1 = 1 from rfl)]
        exact main 1 c (by omega)
    · show K_C_offStraight_L9 N (nI q) (nI n) (if b = true then 1 else 0) (nI (owN (sR a) q n).1) (iI (if b = true then (owN (sR a) q n).2.1 else (owN (sR a) q n).2.2)) (nI n) h = _
      unfold K_C_offStraight_L9
      rw [if_pos ((nI_le_iff (by omega) (by omega)).mpr (Nat.le_refl _))]
  unfold K_C_offStraight
  rw [l, bd_s]
theorem sameM_hset {h g : Hp} (e : sameM h g) {f : Nat} (hf : f ∉ ([7, 11, 12, 16, 26, 32] : List Nat)) (v : Int32) : sameM h (hset g 100 f v) := by
  refine sameM_tr e ⟨fun r hr => hset_ne _ _ _ (fun z => ?_), fun q hq => ?_⟩
  · subst z; revert hr; decide
  · rw [hset_at, upd_ne _ _ (show q ≠ f from fun z => hf (by rw [← z]; exact hq))]
theorem openM {a : St} {h g : Hp} (hW : WF (sR a)) (hM : IM a h) (hg : sameM h g) (N : Nat) (hN : 200 < N) {q n : Nat} (hq : 1 ≤ q ∧ q ≤ 99) (hn : n ≤ 99) : ∃ g', K_M_openWater N (nI q) (nI n) g = some g' ∧ sameM h g' ∧ g' 100 22 = iI (owN (sR a) q n).2.1 ∧ g' 100 23 = iI (owN (sR a) q n).2.2 := by
  have e12 : hset g 100 12 0 = g := hset_id (IM_keep hM hg).2.2
  obtain ⟨t, l1, g', l2, l3, l4, l5⟩ := loopN_fx (fun z_ : Int32 × Int32 × Hp => K_M_openWater_L20 N (nI q) (nI n) z_.1 z_.2.1 z_.2.2) (fun i s => ∃ g', sameM h g' ∧ g' 100 22 = iI (owN (sR a) q i).2.1 ∧ g' 100 23 = iI (owN (sR a) q i).2.2 ∧ s = (nI (owN (sR a) q i).1, nI i, g')) n (fun t => ∃ g', sameM h g' ∧ g' 100 22 = iI (owN (sR a) q n).2.1 ∧ g' 100 23 = iI (owN (sR a) q n).2.2 ∧ t = g') (fun i s hi hJ => by
      obtain ⟨g1, hg1, e1, e2, hJ⟩ := hJ
      subst hJ
      obtain ⟨q1, q2, q3⟩ := IM_keep hM hg1
      have ob := owN_b (sR a) q i
      have dl := dd_lt (owN (sR a) q i).1 (trI (sR a) 0 (5 * (i / q % 2)))
      have tb := trI_b hW (kn := 0) (by omega) (5 * (i / q % 2))
      refine ⟨(nI (owN (sR a) q (i + 1)).1, nI (i + 1), hset (hset g1 100 22 (iI (owN (sR a) q (i + 1)).2.1)) 100 23 (iI (owN (sR a) q (i + 1)).2.2)), ?_, _, sameM_hset (sameM_hset hg1 (f := 22) (by decide) _) (f := 23) (by decide) _, ?_, ?_, rfl⟩
      · show K_M_openWater_L20 N (nI q) (nI n) (nI (owN (sR a) q i).1) (nI i) g1 = _
        have e : owN (sR a) q (i + 1) = owS (sR a) (i / q % 2) (owN (sR a) q i) := rfl
        rw [e]
        unfold K_M_openWater_L20
        have t1 := turnByM hW q2 (kn := 0) (by omega) q3 (p := 5 * (i / q % 2)) (by omega)
        have t2 := pushByM hW q2 (kn := 0) (by omega) q3 (p := 5 * (i / q % 2)) (by omega)
        rw [show 5 * (i / q % 2) / 4 = i / q % 2 by omega, show 5 * (i / q % 2) % 4 = i / q % 2 by omega] at t1 t2
        rw [if_neg (fun z => by have := (nI_le_iff (by omega) (by omega)).mp z; omega), dz_nI (by omega) (by omega), nI_div (by omega) (by omega) (by omega), show (2 : Int32) = nI 2 from rfl, nI_rem (by have := Nat.div_le_self i q; omega) (by omega) (by omega), nm_s, t1, bd_s, turnMod ob.1 tb, nm_s, t2, bd_s, eastM dl, bd_s, northM dl, e1, iI_mul, iI_add, nm_s, bd_s, hset_at, upd_ne _ _ (by decide), e2, iI_mul, iI_add, nm_s, show (1 : Int32) = nI 1 from rfl, nI_add, nm_s]
        rfl
      · rw [hset_at, upd_ne _ _ (by decide), hset_at, upd_at]
      · rw [hset_at, upd_at]) (fun s hJ => by
      obtain ⟨g1, hg1, e1, e2, hJ⟩ := hJ
      subst hJ
      refine ⟨g1, ?_, g1, hg1, e1, e2, rfl⟩
      show K_M_openWater_L20 N (nI q) (nI n) _ (nI n) g1 = _
      unfold K_M_openWater_L20
      rw [if_pos ((nI_le_iff (by omega) (by omega)).mpr (Nat.le_refl _))]) (s0 := (0, 0, hset (hset g 100 22 0) 100 23 0)) ⟨_, sameM_hset (sameM_hset hg (f := 22) (by decide) _) (f := 23) (by decide) _, by rw [hset_at, upd_ne _ _ (by decide), hset_at, upd_at]; rfl, by rw [hset_at, upd_at]; rfl, rfl⟩ (N := N) (by omega)
  subst l5
  refine ⟨t, ?_, l2, l3, l4⟩
  unfold K_M_openWater
  rw [nm_s, e12, nm_s, nm_s, l1, bd_s]
theorem MO_off_ok (N : Nat) (hN : 200 < N) : MO_off N Inv := by
  intro k b0 b1 h x y c hk H
  have H0 := H
  obtain ⟨a, hv, hC, hM, h4, h5⟩ := H
  have hW := hv.1
  have ex : ∀ v : Int32, K_C_off N x y c h = some v → K_M_off N x y c h = some (v, h) → ∃ (r : Int32) (h2 : Hp), K_C_off N x y c h = some r ∧ K_M_off N x y c h = some (r, h2) ∧ Inv (k + 1) b0 b1 (mx lM h2 h) := fun v e1 e2 => ⟨v, h, e1, e2, Inv_M (sameM_rf h) H0⟩
  by_cases cx : 1 ≤ x.toInt ∧ x.toInt ≤ 99
  · by_cases cy : 1 ≤ y.toInt ∧ y.toInt ≤ 99
    · by_cases cc : 0 ≤ c.toInt ∧ c.toInt ≤ 1
      · obtain ⟨q, hq, eq⟩ := nat_of (n := 99) (x := x) ⟨by omega, cx.2⟩
        obtain ⟨n, hn, en⟩ := nat_of (n := 99) (x := y) ⟨by omega, cy.2⟩
        have q1 : 1 ≤ q := by
          have := cx.1
          rw [eq, nI_toInt (by omega)] at this
          omega
        obtain ⟨g, z1, z2, z3, z4⟩ := openM hW hM (sameM_rf h) N hN ⟨q1, hq⟩ hn
        have o1 := offC hW hC N hN ⟨q1, hq⟩ hn true
        have o2 := offC hW hC N hN ⟨q1, hq⟩ hn false
        have o1 : K_C_offStraight N (nI q) (nI n) 1 h = some (iI (owN (sR a) q n).2.1) := o1
        have o2 : K_C_offStraight N (nI q) (nI n) 0 h = some (iI (owN (sR a) q n).2.2) := o2
        by_cases c0 : c = 0
        · refine ⟨iI (owN (sR a) q n).2.1, g, ?_, ?_, Inv_M z2 H0⟩
          · unfold K_C_off K_C_off_J44
            rw [out99, bd_s, if_pos cx, if_pos rfl, out99, bd_s, if_pos cy, if_pos rfl, out1, bd_s, if_pos cc, if_pos rfl, if_pos c0, eq, en, o1, bd_s]
          · unfold K_M_off
            rw [in99, bd_s, if_pos cx, if_neg (by decide), in99, bd_s, if_pos cy, if_neg (by decide), in1, bd_s, if_pos cc, if_neg (by decide), eq, en, z1, bd_s, if_pos c0, z3]
        · refine ⟨iI (owN (sR a) q n).2.2, g, ?_, ?_, Inv_M z2 H0⟩
          · unfold K_C_off K_C_off_J44
            rw [out99, bd_s, if_pos cx, if_pos rfl, out99, bd_s, if_pos cy, if_pos rfl, out1, bd_s, if_pos cc, if_pos rfl, if_neg c0, eq, en, o2, bd_s]
          · unfold K_M_off
            rw [in99, bd_s, if_pos cx, if_neg (by decide), in99, bd_s, if_pos cy, if_neg (by decide), in1, bd_s, if_pos cc, if_neg (by decide), eq, en, z1, bd_s, if_neg c0, z4]
      · refine ex (-1000000002) ?_ ?_
        · unfold K_C_off
          rw [out99, bd_s, if_pos cx, if_pos rfl, out99, bd_s, if_pos cy, if_pos rfl, out1, bd_s, if_neg cc, if_neg (by decide)]
        · unfold K_M_off
          rw [in99, bd_s, if_pos cx, if_neg (by decide), in99, bd_s, if_pos cy, if_neg (by decide), in1, bd_s, if_neg cc, if_pos rfl]
    · refine ex (-1000000002) ?_ ?_
      · unfold K_C_off
        rw [out99, bd_s, if_pos cx, if_pos rfl, out99, bd_s, if_neg cy, if_neg (by decide)]
      · unfold K_M_off
        rw [in99, bd_s, if_pos cx, if_neg (by decide), in99, bd_s, if_neg cy, if_pos rfl]
  · refine ex (-1000000002) ?_ ?_
    · unfold K_C_off
      rw [out99, bd_s, if_neg cx, if_neg (by decide)]
    · unfold K_M_off
      rw [in99, bd_s, if_neg cx, if_pos rfl]
noncomputable def beN (ρ : Rv) (n : Nat) : Nat → Nat
  | 0 => 1
  | i + 1 => if (owN ρ (i + 2) n).2.1.natAbs < (owN ρ (beN ρ n i) n).2.1.natAbs ∨ ((owN ρ (i + 2) n).2.1.natAbs = (owN ρ (beN ρ n i) n).2.1.natAbs ∧ (owN ρ (beN ρ n i) n).2.2 < (owN ρ (i + 2) n).2.2) then i + 2 else beN ρ n i
theorem beN_b (ρ : Rv) (n : Nat) : ∀ i, 1 ≤ beN ρ n i ∧ beN ρ n i ≤ i + 1
  | 0 => ⟨Nat.le_refl _, Nat.le_refl _⟩
  | i + 1 => by
    have h := beN_b ρ n i
    unfold beN
    split <;> omega
theorem absK {z : Int} (h1 : -1000 ≤ z) (h2 : z ≤ 1000) : (if (0 : Int32) ≤ iI z then iI z else 0 - iI z) = iI z.natAbs := by
  have c : (0 : Int32) ≤ iI z ↔ 0 ≤ z := iI_le_iff (a := 0) (by omega) (by omega) (by omega) (by omega)
  by_cases h : 0 ≤ z
  · rw [if_pos (c.mpr h)]; congr 1; omega
  · rw [if_neg (fun q => h (c.mp q)), show (0 : Int32) = iI 0 from rfl, iI_sub]; congr 1; omega
theorem absM {z : Int} (h1 : -1000 ≤ z) (h2 : z ≤ 1000) {α : Type} (f : Int32 → α) : (if (0 : Int32) ≤ iI z then f (iI z) else f (-(iI z))) = f (iI z.natAbs) := by
  have c : (0 : Int32) ≤ iI z ↔ 0 ≤ z := iI_le_iff (a := 0) (by omega) (by omega) (by omega) (by omega)
  by_cases h : 0 ≤ z
  · rw [if_pos (c.mpr h)]; congr 2; omega
  · rw [if_neg (fun q => h (c.mp q)), iI_neg]; congr 2; omega
theorem MO_best_ok (N : Nat) (hN : 200 < N) : MO_best N Inv := by
  intro k b0 b1 h y hk H
  have H0 := H
  obtain ⟨a, hv, hC, hM, h4, h5⟩ := H
  have hW := hv.1
  by_cases cy : 1 ≤ y.toInt ∧ y.toInt ≤ 99
  · obtain ⟨n, hn, en⟩ := nat_of (n := 99) (x := y) ⟨by omega, cy.2⟩
    have lC : loopN (fun z_ : Int32 × Int32 => K_C_best_L17 N y z_.1 z_.2 h) N (1, 2) = some (nI (beN (sR a) n 8)) := by
      refine loopN_for _ (fun i => (nI (beN (sR a) n i), nI (i + 2))) 8 _ (fun i hi => ?_) ?_ (by omega)
      · show K_C_best_L17 N y (nI (beN (sR a) n i)) (nI (i + 2)) h = _
        have bb := beN_b (sR a) n i
        have o1 : K_C_offStraight N (nI (i + 2)) (nI n) 1 h = some (iI (owN (sR a) (i + 2) n).2.1) := offC hW hC N hN ⟨by omega, by omega⟩ hn true
        have o2 : K_C_offStraight N (nI (i + 2)) (nI n) 0 h = some (iI (owN (sR a) (i + 2) n).2.2) := offC hW hC N hN ⟨by omega, by omega⟩ hn false
        have o3 : K_C_offStraight N (nI (beN (sR a) n i)) (nI n) 1 h = some (iI (owN (sR a) (beN (sR a) n i) n).2.1) := offC hW hC N hN ⟨by omega, by omega⟩ hn true
        have o4 : K_C_offStraight N (nI (beN (sR a) n i)) (nI n) 0 h = some (iI (owN (sR a) (beN (sR a) n i) n).2.2) := offC hW hC N hN ⟨by omega, by omega⟩ hn false
        have x1 := owN_b (sR a) (i + 2) n
        have x2 := owN_b (sR a) (beN (sR a) n i) n
        have e : beN (sR a) n (i + 1) = if (owN (sR a) (i + 2) n).2.1.natAbs < (owN (sR a) (beN (sR a) n i) n).2.1.natAbs ∨ ((owN (sR a) (i + 2) n).2.1.natAbs = (owN (sR a) (beN (sR a) n i) n).2.1.natAbs ∧ (owN (sR a) (beN (sR a) n i) n).2.2 < (owN (sR a) (i + 2) n).2.2) then i + 2 else beN (sR a) n i := rfl
        rw [e]
        unfold K_C_best_L17 K_C_best_J73
        rw [if_neg (fun q => by have := (nI_lt_iff (a := 9) (by omega) (by omega)).mp q; omega), en, o1, bd_s, o3, bd_s, absK (by omega) (by omega), absK (by omega) (by omega), iI_sub, nm_s, o2, bd_s, o4, bd_s, show (1 : Int32) = nI 1 from rfl, nI_add, nm_s, nm_s]
        generalize owN (sR a) (i + 2) n = u at x1 ⊢
        generalize owN (sR a) (beN (sR a) n i) n = v at x2 ⊢
        have c1 : iI ((u.2.1.natAbs : Int) - (v.2.1.natAbs : Int)) < 0 ↔ (u.2.1.natAbs : Int) - (v.2.1.natAbs : Int) < 0 := iI_lt_iff (b := 0) (by omega) (by omega) (by omega) (by omega)
        have c2 : iI ((u.2.1.natAbs : Int) - (v.2.1.natAbs : Int)) = 0 ↔ (u.2.1.natAbs : Int) - (v.2.1.natAbs : Int) = 0 := iI_eq_iff (b := 0) (by omega) (by omega) (by omega) (by omega)
        have c3 : iI u.2.2 ≤ iI v.2.2 ↔ u.2.2 ≤ v.2.2 := iI_le_iff (by omega) (by omega) (by omega) (by omega)
        by_cases d1 : (u.2.1.natAbs : Int) - (v.2.1.natAbs : Int) < 0
        · rw [if_pos (c1.mpr d1), if_pos (by omega)]
        · rw [if_neg (fun q => d1 (c1.mp q))]
          by_cases d2 : (u.2.1.natAbs : Int) - (v.2.1.natAbs : Int) = 0
          · rw [if_pos (c2.mpr d2)]
            by_cases d3 : u.2.2 ≤ v.2.2
            · rw [if_pos (c3.mpr d3), if_neg (by omega)]
            · rw [if_neg (fun q => d3 (c3.mp q)), if_pos (by omega)]
          · rw [if_neg (fun q => d2 (c2.mp q)), if_neg (by omega)]
      · show K_C_best_L17 N y _ (nI 10) h = _
        unfold K_C_best_L17
        rw [if_pos (by decide)]
    have lM : ∃ t, loopN (fun z_ : Int32 × Int32 × Int32 × Int32 × Hp => K_M_best_L28 N y z_.1 z_.2.1 z_.2.2.1 z_.2.2.2.1 z_.2.2.2.2) N (0, 99999999, -99999999, 1, h) = some t ∧ ∃ g, sameM h g ∧ t = (nI (beN (sR a) n 8), g) := by
      refine loopN_fx _ (fun i s => ∃ g, sameM h g ∧ s = (if i = 0 then 0 else nI (beN (sR a) n (i - 1)), if i = 0 then 99999999 else iI (owN (sR a) (beN (sR a) n (i - 1)) n).2.1.natAbs, if i = 0 then -99999999 else iI (owN (sR a) (beN (sR a) n (i - 1)) n).2.2, nI (i + 1), g)) 9 _ (fun i s hi hJ => ?_) (fun s hJ => ?_) ⟨h, sameM_rf h, rfl⟩ (by omega)
      · obtain ⟨g, hg, hJ⟩ := hJ
        subst hJ
        obtain ⟨g2, z1, z2, z3, z4⟩ := openM hW hM hg N hN (q := i + 1) ⟨by omega, by omega⟩ hn
        have x1 := owN_b (sR a) (i + 1) n
        refine ⟨(nI (beN (sR a) n i), iI (owN (sR a) (beN (sR a) n i) n).2.1.natAbs, iI (owN (sR a) (beN (sR a) n i) n).2.2, nI (i + 1 + 1), g2), ?_, g2, z2, rfl⟩
        show K_M_best_L28 N y _ _ _ (nI (i + 1)) g = _
        unfold K_M_best_L28
        rw [if_neg (fun q => by have := (nI_le_iff (a := 10) (by omega) (by omega)).mp q; omega), en, z1, bd_s, z3, absM (by omega) (by omega) (fun w => K_M_best_J61 N (nI n) (if i = 0 then 0 else nI (beN (sR a) n (i - 1))) (if i = 0 then 99999999 else iI (owN (sR a) (beN (sR a) n (i - 1)) n).2.1.natAbs) (if i = 0 then -99999999 else iI (owN (sR a) (beN (sR a) n (i - 1)) n).2.2) (nI (i + 1)) w g2)]
        unfold K_M_best_J61 K_M_best_J84
        rw [z4, show (1 : Int32) = nI 1 from rfl, nI_add, nm_s, nm_s, nm_s]
        by_cases i0 : i = 0
        · subst i0
          rw [if_pos rfl, if_pos rfl, if_pos rfl, if_pos (show iI _ < (99999999 : Int32) from (iI_lt_iff (b := 99999999) (by omega) (by omega) (by omega) (by omega)).mpr (by omega))]
          rfl
        · obtain ⟨j, rfl⟩ : ∃ j, i = j + 1 := ⟨i - 1, by omega⟩
          rw [if_neg i0, if_neg i0, if_neg i0, show j + 1 - 1 = j by omega]
          have bb := beN_b (sR a) n j
          have x2 := owN_b (sR a) (beN (sR a) n j) n
          have e : beN (sR a) n (j + 1) = if (owN (sR a) (j + 2) n).2.1.natAbs < (owN (sR a) (beN (sR a) n j) n).2.1.natAbs ∨ ((owN (sR a) (j + 2) n).2.1.natAbs = (owN (sR a) (beN (sR a) n j) n).2.1.natAbs ∧ (owN (sR a) (beN (sR a) n j) n).2.2 < (owN (sR a) (j + 2) n).2.2) then j + 2 else beN (sR a) n j := rfl
          have x1 : (owN (sR a) (j + 2) n).1 < 8 ∧ (-(2 * (n : Int)) ≤ (owN (sR a) (j + 2) n).2.1 ∧ (owN (sR a) (j + 2) n).2.1 ≤ 2 * n) ∧ (-(2 * (n : Int)) ≤ (owN (sR a) (j + 2) n).2.2 ∧ (owN (sR a) (j + 2) n).2.2 ≤ 2 * n) := x1
          show ((if iI ((owN (sR a) (j + 2) n).2.1.natAbs : Int) < iI ((owN (sR a) (beN (sR a) n j) n).2.1.natAbs : Int) then some (.inl (nI (j + 2), iI ((owN (sR a) (j + 2) n).2.1.natAbs : Int), iI (owN (sR a) (j + 2) n).2.2, nI (j + 1 + 1 + 1), g2)) else if iI ((owN (sR a) (j + 2) n).2.1.natAbs : Int) = iI ((owN (sR a) (beN (sR a) n j) n).2.1.natAbs : Int) then if iI (owN (sR a) (j + 2) n).2.2 ≤ iI (owN (sR a) (beN (sR a) n j) n).2.2 then some (.inl (nI (beN (sR a) n j), iI ((owN (sR a) (beN (sR a) n j) n).2.1.natAbs : Int), iI (owN (sR a) (beN (sR a) n j) n).2.2, nI (j + 1 + 1 + 1), g2)) else some (.inl (nI (j + 2), iI ((owN (sR a) (j + 2) n).2.1.natAbs : Int), iI (owN (sR a) (j + 2) n).2.2, nI (j + 1 + 1 + 1), g2)) else some (.inl (nI (beN (sR a) n j), iI ((owN (sR a) (beN (sR a) n j) n).2.1.natAbs : Int), iI (owN (sR a) (beN (sR a) n j) n).2.2, nI (j + 1 + 1 + 1), g2))) : Option ((Int32 × Int32 × Int32 × Int32 × Hp) ⊕ (Int32 × Hp))) = _
          rw [e]
          by_cases d1 : (owN (sR a) (j + 2) n).2.1.natAbs < (owN (sR a) (beN (sR a) n j) n).2.1.natAbs
          · rw [if_pos ((iI_lt_iff (by omega) (by omega) (by omega) (by omega)).mpr (by omega)), if_pos (Or.inl d1)]
          · rw [if_neg (fun q => d1 (by have := (iI_lt_iff (by omega) (by omega) (by omega) (by omega)).mp q; omega))]
            by_cases d2 : (owN (sR a) (j + 2) n).2.1.natAbs = (owN (sR a) (beN (sR a) n j) n).2.1.natAbs
            · rw [if_pos (by rw [d2])]
              by_cases d3 : (owN (sR a) (j + 2) n).2.2 ≤ (owN (sR a) (beN (sR a) n j) n).2.2
              · rw [if_pos ((iI_le_iff (by omega) (by omega) (by omega) (by omega)).mpr d3), if_neg (by omega)]
              · rw [if_neg (fun q => d3 ((iI_le_iff (by omega) (by omega) (by omega) (by omega)).mp q)), if_pos (Or.inr ⟨d2, by omega⟩)]
            · rw [if_neg (fun q => d2 (by have := (iI_eq_iff (by omega) (by omega) (by omega) (by omega)).mp q; omega)), if_neg (by omega)]
      · obtain ⟨g, hg, hJ⟩ := hJ
        subst hJ
        refine ⟨_, ?_, g, hg, rfl⟩
        show K_M_best_L28 N y (nI (beN (sR a) n 8)) _ _ (nI 10) g = _
        unfold K_M_best_L28
        rw [if_pos (by decide)]
    obtain ⟨t, l1, g, hg, l2⟩ := lM
    subst l2
    refine ⟨nI (beN (sR a) n 8), g, ?_, ?_, Inv_M hg H0⟩
    · unfold K_C_best
      rw [out99, bd_s, if_pos cy, if_pos rfl, lC, bd_s]
    · unfold K_M_best
      rw [in99, bd_s, if_pos cy, if_neg (by decide), l1, bd_s]
  · refine ⟨-1000000002, h, ?_, ?_, Inv_M (sameM_rf h) H0⟩
    · unfold K_C_best
      rw [out99, bd_s, if_neg cy, if_neg (by decide)]
    · unfold K_M_best
      rw [in99, bd_s, if_neg cy, if_pos rfl]
