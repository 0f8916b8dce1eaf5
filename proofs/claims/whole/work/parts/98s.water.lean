/-! the first clause, whole -/
theorem wantF {f : Hp} {n : Nat} (hn : 1 ≤ n ∧ n ≤ 4) (h : f 100 10 = nI n) (a b c : Int32) : K_M_want a b c f = some (0, f) := by
  have ne : ¬ f 100 10 = 0 := fun z => by
    rw [h] at z
    have := (nI_eq_iff (b := 0) (by omega) (by omega)).mp z
    omega
  unfold K_M_want K_M_want_J21
  rw [if_neg ne]
  by_cases c : a = 0
  · rw [if_pos c, if_neg ne]
  · rw [if_neg c, if_neg ne]
theorem frK_S {g g' : Hp} (h : frSq g g') : frK g g' := ⟨fun r hr => h.1 r (ne_of_nm hr (by decide)) (ne_of_nm hr (by decide)), h.2 4 (by decide)⟩
/-- the kinds of the squares told -/
def kdn (tx : List Nat) (p W H : Nat) (s : Nat) : Nat := if s % 8 < W ∧ s / 8 < H then kk tx 1 (skp tx (psq tx p (W * (s / 8) + s % 8))) else 1
theorem kdn_le {tx : List Nat} (hX : okX tx) {p W H : Nat} (ok : ∀ n, n < W * H → lt tx 1 (skp tx (psq tx p n)) ≠ -1) (s : Nat) : kdn tx p W H s ≤ 6 := by
  unfold kdn
  by_cases c : s % 8 < W ∧ s / 8 < H
  · rw [if_pos c]
    rcases lt_or hX (i := 1) (by decide) (skp tx (psq tx p (W * (s / 8) + s % 8))) with z | ⟨_, bk⟩
    · exact absurd z (ok _ (wrL c.2 c.1))
    · exact bk
  · rw [if_neg c]; decide
theorem kdn_C {tx : List Nat} {P : Int32} {p W H : Nat} (hW : 1 ≤ W ∧ W ≤ 8) {g g' : Hp} (h : SqC tx P p W g (W * H) g') (h1 : ∀ s, s < 48 → g 11 s = 1) (s : Nat) (hs : s < 48) : g' 11 s = nI (kdn tx p W H s) := by
  obtain ⟨_, _, h3, h4⟩ := h
  unfold kdn
  by_cases c : s % 8 < W ∧ s / 8 < H
  · rw [if_pos c]
    have d1 : (W * (s / 8) + s % 8) / W = s / 8 := by rw [Nat.mul_add_div (by omega), Nat.div_eq_of_lt c.1, Nat.add_zero]
    have d2 : (W * (s / 8) + s % 8) % W = s % 8 := by rw [Nat.mul_add_mod, Nat.mod_eq_of_lt c.1]
    have := h3 _ (wrL c.2 c.1)
    rw [d1, d2, show s / 8 * 8 + s % 8 = s by omega] at this
    exact this
  · rw [if_neg c, h4 s (fun j hj z => c ?_)]
    · exact h1 s hs
    · have q1 : j % W < W := Nat.mod_lt _ (by omega)
      have q2 : j / W < H := Nat.div_lt_of_lt_mul hj
      omega
theorem kdn_any {tx : List Nat} {p W H : Nat} (hW : 1 ≤ W ∧ W ≤ 8) (hH : 1 ≤ H ∧ H ≤ 6) : anyO tx p (W * H) = true ↔ fo (kdn tx p W H) < 48 := by
  rw [anyO_iff]
  constructor
  · rintro ⟨j, hj, hk⟩
    have q1 : j % W < W := Nat.mod_lt _ (by omega)
    have q2 : j / W < H := Nat.div_lt_of_lt_mul hj
    have e : kdn tx p W H (8 * (j / W) + j % W) = kk tx 1 (skp tx (psq tx p j)) := by
      unfold kdn
      rw [show (8 * (j / W) + j % W) % 8 = j % W by omega, show (8 * (j / W) + j % W) / 8 = j / W by omega, if_pos ⟨q1, q2⟩, Nat.div_add_mod]
    by_cases c : fo (kdn tx p W H) < 48
    · exact c
    · exfalso
      have b : fo (kdn tx p W H) ≤ 48 := fs_le _ 48
      have b48 : fo (kdn tx p W H) = 48 := by omega
      have := fs_lt (fun s => decide (kdn tx p W H s ≠ 1)) (e := 48) (j := 8 * (j / W) + j % W) (by show _ < fo (kdn tx p W H); omega)
      have := of_decide_eq_false this
      exact this (by rw [e]; exact hk)
  · intro c
    have a : kdn tx p W H (fo (kdn tx p W H)) ≠ 1 := of_decide_eq_true (fs_at (fun s => decide (kdn tx p W H s ≠ 1)) c)
    generalize fo (kdn tx p W H) = s at a c
    by_cases d : s % 8 < W ∧ s / 8 < H
    · refine ⟨W * (s / 8) + s % 8, wrL d.2 d.1, ?_⟩
      unfold kdn at a
      rw [if_pos d] at a
      exact a
    · unfold kdn at a
      rw [if_neg d] at a
      exact absurd rfl a
theorem rivJ {tx : List Nat} (hX : okX tx) {P : Int32} {p : Nat} {g f : Hp} (h : JJ tx 0 P p g f) (N : Nat) (hN : 200 < N) {ρ : Rv} (hW : WF ρ) (h0 : rW ρ = 0) (hR : RC ρ g) (hM : RH ρ False f) : ∃ g' f', K_Reader_readSquares N g = some g' ∧ K_M_takeRiver N f = some f' ∧ CE tx P False g f g' f' := by
  obtain ⟨w1, v1, g1, f1, F1, P1, p1, a1, a2, a3, a4, a5, a6, a7, a8, a9⟩ := numJ hX h N hN (lo := 1) (hi := 8) (by decide) (by decide)
  obtain ⟨w2, v2, g2, f2, F2, P2, p2, b1, b2, b3, b4, b5, b6, b7, b8, b9⟩ := numJ hX a3 N hN (lo := 1) (hi := 6) (by decide) (by decide)
  have a1 : K_Reader_readNumber N 1 8 g = some (nI w1, g1) := a1
  have a2 : K_M_takeNumber N 1 8 f = some (v1, f1) := a2
  have b1 : K_Reader_readNumber N 1 6 g1 = some (nI w2, g2) := b1
  have b2 : K_M_takeNumber N 1 6 f1 = some (v2, f2) := b2
  have fg := frN_trans a4 b4
  have ff := frM_trans a5 b5
  have hc : ∀ f3 x3 x4 v fx, K_M_want x3 4 x4 f3 = some (v, fx) → K_M_takeRiver_J120 N v1 v2 x3 x4 f3 = some (hset (hset fx 104 12 v1) 104 13 v2) := fun f3 x3 x4 v fx e => by
    unfold K_M_takeRiver_J120
    rw [e, bd2_s, sA_lit (x := 12) (i := 12) rfl (by decide) (by decide), show Int32.toNatClampNeg 12 = 12 from rfl, nm_s, sA_lit (x := 13) (i := 13) rfl (by decide) (by decide), show Int32.toNatClampNeg 13 = 13 from rfl, nm_s]
  have f12 : ∀ {fx : Hp}, frR f fx → frR f (hset (hset fx 104 12 v1) 104 13 v2) := fun e => frR_set (frR_set e (by decide) _ _ (by decide)) (by decide) _ _ (by decide)
  by_cases cF : F2 = 0
  · subst cF
    obtain ⟨r1, r2, r3⟩ := b8 rfl
    obtain ⟨r4, r5, r6⟩ := a8 r1
    have whb : w1 * w2 ≤ 48 := by
      have := Nat.mul_le_mul a6.2 b6.2
      omega
    have wh1 : 1 ≤ w1 * w2 := Nat.mul_le_mul a6.1 b6.1
    have hle : bdl tx 1 p2 (w1 * w2) ≤ w1 * w2 := fs_le _ _
    have hP : P2 = P := r2.trans r5
    subst hP
    have g11 : ∀ s, s < 48 → g2 11 s = 1 := fun s hs => by
      rw [fg.1 11 (by decide), hR.2.2.2.2.2.2.2.2.2.2.2.1 s hs, hW.2.2.2.2.2.2.2.2.2.2.2.2.2.1 s (fun z => by rw [h0] at z; exact absurd z.1 (Nat.not_lt_zero _))]
      rfl
    generalize ee : bdl tx 1 p2 (w1 * w2) = e at hle
    have okk : ∀ n, n < e → lt tx 1 (skp tx (psq tx p2 n)) ≠ -1 := fun n hn => bdl_ok (by rw [ee]; exact hn)
    have obad : e < w1 * w2 → lt tx 1 (skp tx (psq tx p2 e)) = -1 := fun c => by
      have := bdl_bad (tx := tx) (i := 1) (p := p2) (e := w1 * w2) (by rw [ee]; exact c)
      rw [ee] at this
      exact this
    obtain ⟨t, l1, l2⟩ := sqOut hX N hN a6 b6 hle okk obad (cX_J b3)
    obtain ⟨x3, x4, f3, m1, m2, m3, m4, m5⟩ := sqM hX N hN a6 b6 hle whb okk obad (mX_J b3)
    have kC : K_Reader_readSquares N g = el t (fun r_ => some r_) (fun t18x => bd (K_River_firstOpen N t18x) <| fun v80 => if v80 = (-1) then (bd (K_Reader_fail 4 ((t18x 70 3) - 1) t18x) <| fun h97 => K_Reader_readSquares_J100 N (nI w1) (nI w2) v80 h97) else ( K_Reader_readSquares_J100 N (nI w1) (nI w2) v80 t18x)) := by
      unfold K_Reader_readSquares
      rw [a1, bd2_s, b1, bd2_s, l1, bd_s]
    have kM : K_M_takeRiver N f = K_M_takeRiver_J120 N v1 v2 x3 x4 f3 := by
      unfold K_M_takeRiver
      rw [a2, bd2_s, b2, bd2_s, r3, r6, m1, bd_s]
    have frf : frR f f3 := frR_trans (frR_M ff) m2
    rw [kC, kM]
    rcases l2 with ⟨g3, et, c1, c2⟩ | ⟨g3, et, c1, c2⟩
    · rcases m5 with ⟨d1, d2, d3, d4, d5⟩ | ⟨d1, _⟩
      · have all : ∀ n, n < w1 * w2 → lt tx 1 (skp tx (psq tx p2 n)) ≠ -1 := fun n hn => okk n (by omega)
        have kle := kdn_le hX all
        have kc := kdn_C a6 c2 g11
        have fr3 : frK g g3 := frK_trans (frK_N fg) (frK_S c2.2.1)
        rw [et]
        show ∃ g' f', (bd (K_River_firstOpen N g3) <| fun v80 => if v80 = (-1) then (bd (K_Reader_fail 4 ((g3 70 3) - 1) g3) <| fun h97 => K_Reader_readSquares_J100 N (nI w1) (nI w2) v80 h97) else ( K_Reader_readSquares_J100 N (nI w1) (nI w2) v80 g3)) = some g' ∧ _
        rw [foC kle kc N hN, bd_s]
        have an := kdn_any (tx := tx) (p := p2) a6 b6
        by_cases cf : fo (kdn tx p2 w1 w2) < 48
        · have ea : anyO tx p2 (w1 * w2) = true := an.mpr cf
          rw [ea] at d4
          have d4 : x3 = 1 := d4
          have fk : kdn tx p2 w1 w2 (fo (kdn tx p2 w1 w2)) ≠ 1 := of_decide_eq_true (fs_at (fun s => decide (kdn tx p2 w1 w2 s ≠ 1)) cf)
          have fb : ∀ s, s < fo (kdn tx p2 w1 w2) → kdn tx p2 w1 w2 s = 1 := fun s hs => Decidable.not_not.mp (of_decide_eq_false (fs_lt (fun s => decide (kdn tx p2 w1 w2 s ≠ 1)) hs))
          generalize ef : fo (kdn tx p2 w1 w2) = q at cf fk fb ⊢
          rw [if_pos cf, if_neg (show ¬ nI q = -1 from fun z => absurd (show nI q < 0 by rw [z]; decide) (nI_not_neg (by omega))), d4, hc f3 1 x4 1 f3 (want1 d2.2.1 _ _)]
          unfold K_Reader_readSquares_J100
          rw [nm_s, nm_s, show nI q * 8 = nI (8 * q) by rw [show (8 : Int32) = nI 8 from rfl, nI_mul, Nat.mul_comm], nm_s]
          refine ⟨_, _, rfl, rfl, frK_set (frK_set (frK_set fr3 (by decide) _ _) (by decide) _ _) (by decide) _ _, f12 frf, 0, P2, _, JJ_of (by rw [hset_ne _ _ _ (by decide), hset_ne _ _ _ (by decide), hset_ne _ _ _ (by decide)]) (by rw [hset_ne _ _ _ (by decide), hset_ne _ _ _ (by decide), hset_ne _ _ _ (by decide)]) (by rw [hset_ne _ _ _ (by decide), hset_ne _ _ _ (by decide)]) (by rw [hset_ne _ _ _ (by decide), hset_ne _ _ _ (by decide)]) (JJ_cm c2.1 d2), fun _ => ⟨rfl, (fun i => if i = 0 then w1 else if i = 1 then w2 else if i = 10 then 8 * q else ρ.1 i, kdn tx p2 w1 w2, ρ.2.2), ?_, ?_, ?_, ?_⟩⟩
          · obtain ⟨q0, q1, q2, q3, q4, q5, q6, q7, q8, q9, q10, q11, q12, q13, q14, q15, q16, q17⟩ := hW
            have g0 : rG ρ = 0 := by
              by_cases z : rG ρ = 0
              · exact z
              · exact absurd (q13 _ (fun y => by rw [h0] at y; exact absurd y.1 (Nat.not_lt_zero _))) (q7 z).2
            refine ⟨a6.2, b6.2, ?_, q3, q4, q5, q6, fun z => absurd g0 z, q8, q9, q10, q11, kle, fun s hs => ?_, q14, ?_, fun z => ?_, fun _ => ?_⟩
            · show w1 = 0 ↔ w2 = 0
              omega
            · show kdn tx p2 w1 w2 s = 1
              unfold kdn
              exact if_neg hs
            · show 8 * q < 384
              omega
            · have z : w1 = 0 := z
              omega
            · show 8 * q / 8 < 48 ∧ kdn tx p2 w1 w2 (8 * q / 8) ≠ 1
              rw [show 8 * q / 8 = q by omega]
              exact ⟨cf, fk⟩
          · show w1 ≠ 0
            omega
          · obtain ⟨h0, h1, h2, h3, h4, h5, h6, h7, h8, h9, h10, h11, h12⟩ := hR
            have n : ∀ j, j ≠ 0 → j ≠ 1 → j ≠ 7 → (hset (hset (hset g3 10 0 (nI w1)) 10 1 (nI w2)) 10 7 (nI (8 * q))) 10 j = g 10 j := fun j x y z => by rw [hset_at, upd_ne _ _ z, hset_at, upd_ne _ _ y, hset_at, upd_ne _ _ x, c2.2.1.1 10 (by decide) (by decide), fg.1 10 (by decide)]
            refine ⟨?_, ?_, (n _ (by decide) (by decide) (by decide)).trans h2, (n _ (by decide) (by decide) (by decide)).trans h3, (n _ (by decide) (by decide) (by decide)).trans h4, (n _ (by decide) (by decide) (by decide)).trans h5, ?_, (n _ (by decide) (by decide) (by decide)).trans h7, (n _ (by decide) (by decide) (by decide)).trans h8, (n _ (by decide) (by decide) (by decide)).trans h9, (n _ (by decide) (by decide) (by decide)).trans h10, fun s hs => ?_, fun s hs => ?_⟩
            · rw [hset_at, upd_ne _ _ (by decide), hset_at, upd_ne _ _ (by decide), hset_at, upd_at]; rfl
            · rw [hset_at, upd_ne _ _ (by decide), hset_at, upd_at]; rfl
            · rw [hset_at, upd_at]; rfl
            · rw [hset_ne _ _ _ (by decide), hset_ne _ _ _ (by decide), hset_ne _ _ _ (by decide)]; exact kc s hs
            · rw [hset_ne _ _ _ (by decide), hset_ne _ _ _ (by decide), hset_ne _ _ _ (by decide), c2.2.1.1 12 (by decide) (by decide), fg.1 12 (by decide)]; exact h12 s hs
          · obtain ⟨⟨h0', h1, h2, h3, h4, h5⟩, ⟨h6, h7⟩, ⟨h8, h9⟩, h10, h11, h12, h13⟩ := hM
            have g0 : rG ρ = 0 := by
              by_cases z : rG ρ = 0
              · exact z
              · exact absurd (hW.2.2.2.2.2.2.2.2.2.2.2.2.2.1 _ (fun y => by rw [h0] at y; exact absurd y.1 (Nat.not_lt_zero _))) (hW.2.2.2.2.2.2.2.1 z).2
            have n : ∀ j, j ≠ 12 → j ≠ 13 → (hset (hset f3 104 12 v1) 104 13 v2) 104 j = f 104 j := fun j x y => by rw [hset_at, upd_ne _ _ y, hset_at, upd_ne _ _ x, m3, ff.1 104 (by decide)]
            have k3' : (hset (hset f3 104 12 v1) 104 13 v2) 103 = f3 103 := by rw [hset_ne _ _ _ (by decide), hset_ne _ _ _ (by decide)]
            have k5' : (hset (hset f3 104 12 v1) 104 13 v2) 105 = f 105 := by rw [hset_ne _ _ _ (by decide), hset_ne _ _ _ (by decide), m4, ff.1 105 (by decide)]
            refine ⟨⟨?_, ?_, (n _ (by decide) (by decide)).trans h2, (n _ (by decide) (by decide)).trans h3, (n _ (by decide) (by decide)).trans h4, (n _ (by decide) (by decide)).trans h5⟩, ⟨(n _ (by decide) (by decide)).trans (h6.trans ?_), (n _ (by decide) (by decide)).trans h7⟩, ⟨(n _ (by decide) (by decide)).trans h8, (n _ (by decide) (by decide)).trans h9⟩, fun s hs => ?_, fun j hj => by rw [k5']; exact h11 j hj, fun b => b.elim, fun b => ⟨by rw [n 18 (by decide) (by decide), n 19 (by decide) (by decide)]; exact (h13 b).1, fun _ => ⟨?_, fun s hs => ?_⟩⟩⟩
            · rw [hset_at, upd_ne _ _ (by decide), hset_at, upd_at, r6]; rfl
            · rw [hset_at, upd_at, r3]; rfl
            · rw [if_pos g0]
              exact (if_pos g0).symm
            · have hs : s % 8 < w1 ∧ s / 8 < w2 := hs
              rw [k3']
              show f3 103 (48 + (w1 * (s / 8) + s % 8)) = nI (kdn tx p2 w1 w2 s)
              rw [d3 _ (wrL hs.2 hs.1)]
              unfold kdn
              rw [if_pos hs]
            · show 8 * q % 8 = 0
              omega
            · have hs : s < 8 * q / 8 := hs
              exact fb s (by omega)
        · have ea : anyO tx p2 (w1 * w2) = false := by
            cases z : anyO tx p2 (w1 * w2)
            · rfl
            · exact absurd (an.mp z) cf
          rw [ea] at d4
          have d4 : x3 = 0 := d4
          obtain ⟨m, em⟩ : ∃ m, w1 * w2 = m + 1 := ⟨w1 * w2 - 1, by omega⟩
          have e4 : x4 = nI (skp tx (psq tx p2 m)) := by rw [d5, em]; rfl
          have e70 : g3 70 3 - 1 = nI (skp tx (psq tx p2 m)) := by
            rw [c2.1.2.1.2.1, em, show nI (psq tx p2 (m + 1)) - 1 = nI (psq tx p2 (m + 1) - 1) from nI_sub (b := 1) (show 1 ≤ skp tx (psq tx p2 m) + 1 by omega)]
            rfl
          obtain ⟨g4, z1, z2, z3, z4, z5⟩ := failX c2.1 (n := 4) (q := skp tx (psq tx p2 m)) (by omega)
          have z1 : K_Reader_fail 4 (nI (skp tx (psq tx p2 m))) g3 = some g4 := z1
          have z3 : cX tx 4 (nI (skp tx (psq tx p2 m))) (psq tx p2 (w1 * w2)) g4 := z3
          have w0 := want0 d2.2.1 (n := 4) (by omega) x4
          have w0 : K_M_want 0 4 x4 f3 = some (0, hset (hset f3 100 10 (nI 4)) 100 11 x4) := w0
          rw [if_neg cf, if_pos rfl, e70, z1, bd_s, d4, hc f3 0 x4 0 _ w0]
          unfold K_Reader_readSquares_J100
          rw [nm_s, nm_s, nm_s]
          refine ⟨_, _, rfl, rfl, frK_set (frK_set (frK_set (frK_trans fr3 (frK_N z2)) (by decide) _ _) (by decide) _ _) (by decide) _ _, f12 (frR_trans frf (frR_M (frM_set (frM_set (frM_refl f3) (by decide) _) (by decide) _))), 4, nI (skp tx (psq tx p2 m)), psq tx p2 (w1 * w2), ?_, fun z => absurd z (by decide)⟩
          refine JJ_of (g := g4) (f := hset (hset f3 100 10 (nI 4)) 100 11 x4) (by rw [hset_ne _ _ _ (by decide), hset_ne _ _ _ (by decide), hset_ne _ _ _ (by decide)]) (by rw [hset_ne _ _ _ (by decide), hset_ne _ _ _ (by decide), hset_ne _ _ _ (by decide)]) (by rw [hset_ne _ _ _ (by decide), hset_ne _ _ _ (by decide)]) (by rw [hset_ne _ _ _ (by decide), hset_ne _ _ _ (by decide)]) ⟨z3.1, z3.2.1, z3.2.2.1, z3.2.2.2, by rw [hset_at, upd_ne _ _ (by decide), hset_at, upd_at], by rw [hset_at, upd_at, e4], fun z => absurd z (by decide)⟩
      · omega
    · rcases m5 with ⟨d1, _⟩ | ⟨d1, d2, d3⟩
      · omega
      · obtain ⟨c3, p', c4⟩ := c2
        rw [et, hc f3 x3 x4 0 f3 (wantF (n := 1) (by omega) d2 _ _ _)]
        refine ⟨g3, _, rfl, rfl, frK_trans (frK_N fg) (frK_S c3), f12 frf, 1, _, p', JJ_of rfl rfl (by rw [hset_ne _ _ _ (by decide), hset_ne _ _ _ (by decide)]) (by rw [hset_ne _ _ _ (by decide), hset_ne _ _ _ (by decide)]) (f := f3) ⟨c4.1, c4.2.1, c4.2.2.1, c4.2.2.2, d2, d3, fun z => absurd z (by decide)⟩, fun z => absurd z (by decide)⟩
  · obtain ⟨g3, p', l1, l2, l3⟩ := sqFlt hX cF N hN a6 b6 (cX_J b3)
    have fd : f2 100 10 = nI F2 := b3.2.2.2.2.1
    have F4 := b3.1
    have lm : loopN (fun z_ : Int32 × Int32 × Int32 × Hp => K_M_takeRiver_L24 N v1 v2 z_.1 z_.2.1 z_.2.2.1 z_.2.2.2) N (0, 0, 0, f2) = some (0, 0, f2) := by
      obtain ⟨n, rfl⟩ : ∃ n, N = n + 1 := ⟨N - 1, by omega⟩
      refine loopN_t n ?_
      show K_M_takeRiver_L24 (n + 1) v1 v2 0 0 0 f2 = _
      unfold K_M_takeRiver_L24
      rw [fd, if_neg (show ¬ nI F2 = 0 from fun z => cF ((nI_eq_iff (b := 0) (by omega) (by omega)).mp z))]
      by_cases c : v1 * v2 ≤ 0
      · rw [if_pos c]
      · rw [if_neg c]
    refine ⟨g3, hset (hset f2 104 12 v1) 104 13 v2, ?_, ?_, frK_N (frN_trans fg l2), f12 (frR_M ff), F2, P2, p', JJ_of rfl rfl (by rw [hset_ne _ _ _ (by decide), hset_ne _ _ _ (by decide)]) (by rw [hset_ne _ _ _ (by decide), hset_ne _ _ _ (by decide)]) (f := f2) ⟨l3.1, l3.2.1, l3.2.2.1, l3.2.2.2, fd, b3.2.2.2.2.2.1, fun z => absurd z cF⟩, fun z => absurd z cF⟩
    · unfold K_Reader_readSquares
      rw [a1, bd2_s, b1, bd2_s, l1, bd_s]
      rfl
    · unfold K_M_takeRiver
      rw [a2, bd2_s, b2, bd2_s, lm, bd_s]
      exact hc f2 0 0 0 f2 (wantF (n := F2) (by omega) fd _ _ _)
