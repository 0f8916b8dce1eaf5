/-! the end of a clause -/
def FE (g f : Hp) : Prop := ∃ (F : Nat) (P : Int32), 1 ≤ F ∧ F ≤ 4 ∧ g 70 6 = nI F ∧ g 70 7 = P ∧ f 100 10 = nI F ∧ f 100 11 = P
/-- past the end nothing is skipped -/
theorem skipE {tx : List Nat} (hX : okX tx) {g : Hp} (h1 : g 70 1 = nI tx.length) (h3 : g 70 3 = nI (tx.length + 1)) (N : Nat) (hN : 200 < N) : K_Reader_skipBlanks N g = some g := by
  have n64 := hX.1
  obtain ⟨n, rfl⟩ : ∃ n, N = n + 1 := ⟨N - 1, by omega⟩
  unfold K_Reader_skipBlanks
  have l : loopN (fun z_ : Hp => K_Reader_skipBlanks_L0 (n + 1) z_) (n + 1) g = some g := by
    refine loopN_t n ?_
    unfold K_Reader_skipBlanks_L0
    rw [h1, h3, if_pos ((nI_le_iff (by omega) (by omega)).mpr (Nat.le_succ _))]
  rw [l, bd_s]
/-- a step on, and the blanks behind it -/
theorem stepE {tx : List Nat} (hX : okX tx) {F : Nat} {P : Int32} {q : Nat} {g : Hp} (h : cX tx F P q g) (N : Nat) (hN : 200 < N) : ∃ g1 g2, K_Reader_readEnd_J22 N g = some g1 ∧ K_Reader_skipBlanks N g1 = some g2 ∧ frN g g2 ∧ g2 70 6 = nI F ∧ g2 70 7 = P ∧ (q + 1 ≤ tx.length → cX tx F P (skp tx (q + 1)) g2) := by
  have e1 : K_Reader_readEnd_J22 N g = some (hset g 70 3 (nI (q + 1))) := by
    unfold K_Reader_readEnd_J22
    rw [h.2.1.2.1, show nI q + 1 = nI (q + 1) from nI_add q 1, nm_s]
  have fr := frN_set (frN_refl g) (x := 3) (by decide) (nI (q + 1))
  by_cases c : q + 1 ≤ tx.length
  · have b := cX_at h c
    have sl := skp_le c
    refine ⟨_, _, e1, skipC hX b.2.1 N hN, frN_set fr (by decide) _, ?_, ?_, fun _ => cX_at b sl.2⟩
    · exact (cX_at b sl.2).2.2.1
    · exact (cX_at b sl.2).2.2.2
  · have pl := h.2.1.2.2.1
    have ql : q = tx.length := by omega
    refine ⟨_, _, e1, skipE hX ?_ ?_ N hN, fr, ?_, ?_, fun z => absurd z c⟩
    · rw [hset_at, upd_ne _ _ (by decide)]; exact h.2.1.1
    · rw [hset_at, upd_at, ql]
    · rw [hset_at, upd_ne _ _ (by decide)]; exact h.2.2.1
    · rw [hset_at, upd_ne _ _ (by decide)]; exact h.2.2.2
theorem chC_59 {tx : List Nat} (hX : okX tx) (q : Nat) : (nI (chC tx q) = 59 ↔ chC tx q = 59) ∧ (chM tx q = 59 ↔ chC tx q = 59) ∧ (chC tx q = 59 → q < tx.length) := by
  have := chC_le hX q
  refine ⟨nI_eq_iff (b := 59) (by omega) (by omega), ?_, fun z => ?_⟩
  · unfold chM chC
    by_cases c : q < tx.length
    · have := okX_get hX c
      rw [if_pos c, if_pos c]
      exact nI_eq_iff (b := 59) (by omega) (by omega)
    · rw [if_neg c, if_neg c]
      exact ⟨fun z => absurd z (by decide), fun z => absurd z (by decide)⟩
  · by_cases c : q < tx.length
    · exact c
    · unfold chC at z
      rw [if_neg c] at z
      exact absurd z (by decide)
/-- the reference behind a clause -/
def M_tail (N : Nat) (h40 : Hp) : Option (Hp ⊕ Hp) := if (h40 100 10) = 0 then (bd2 (K_M_here N h40) <| fun v52 h52 => if v52 = 59 then ( K_M_river_J65 N 1 h52) else ( K_M_river_J65 N 0 h52)) else ( some (.inl h40))
theorem endJ {tx : List Nat} (hX : okX tx) {F : Nat} {P : Int32} {p : Nat} {g f : Hp} (h : JJ tx F P p g f) (N : Nat) (hN : 200 < N) : ∃ g1 g2 f2, K_Reader_readEnd N g = some g1 ∧ K_Reader_skipBlanks N g1 = some g2 ∧ M_tail N f = some (.inl f2) ∧ frN g g2 ∧ frM f f2 ∧ ((F = 0 ∧ ∃ p', cX tx 0 P (skp tx p') g2 ∧ mX tx P p' f2) ∨ FE g2 f2) := by
  have hc := cX_J h
  have pl := hc.2.1.2.2.1
  have sl := skp_le pl
  have b := cX_at hc sl.2
  have fr0 := frN_set (frN_refl g) (x := 3) (by decide) (nI (skp tx p))
  obtain ⟨c59, m59, l59⟩ := chC_59 hX (skp tx p)
  have kC : K_Reader_readEnd N g = if nI (chC tx (skp tx p)) = 59 then ( K_Reader_readEnd_J22 N (hset g 70 3 (nI (skp tx p)))) else (bd (K_Reader_fail 1 (nI (skp tx p)) (hset g 70 3 (nI (skp tx p)))) <| fun h19 => K_Reader_readEnd_J22 N h19) := by
    unfold K_Reader_readEnd
    rw [skipC hX hc.2.1 N hN, bd_s, letterC hX b.2.1, bd_s, b.2.1.2.1]
  obtain ⟨q1, q2, q3, q4, q5, q6, q7⟩ := h
  by_cases cF : F = 0
  · subst cF
    obtain ⟨f1, a1, a2, a3⟩ := hereX hX (P := P) ⟨q7 rfl, q5, q6⟩ N hN
    by_cases c : chC tx (skp tx p) = 59
    · have lin := l59 c
      obtain ⟨g1, g2, s1, s2, s3, s4, s5, s6⟩ := stepE hX b N hN
      refine ⟨g1, g2, hset f1 100 8 (nI (skp tx p + 1)), ?_, s2, ?_, frN_trans fr0 s3, frM_set a2 (by decide) _, .inl ⟨rfl, skp tx p + 1, s6 lin, mLx_at a3.1 lin, by rw [hset_at, upd_ne _ _ (by decide)]; exact a3.2.1, by rw [hset_at, upd_ne _ _ (by decide)]; exact a3.2.2⟩⟩
      · rw [kC, if_pos (c59.mpr c)]; exact s1
      · unfold M_tail
        rw [if_pos (show f 100 10 = 0 from q5), a1, bd2_s, if_pos (m59.mpr c)]
        unfold K_M_river_J65
        rw [want1 a3.2.1, bd2_s, if_neg (by decide), a3.1.2.1, show nI (skp tx p) + 1 = nI (skp tx p + 1) from nI_add _ 1, nm_s]
    · obtain ⟨g3, z1, z2, z3, z4, z5⟩ := failX b (n := 1) (q := skp tx p) (by omega)
      have z1 : K_Reader_fail 1 (nI (skp tx p)) (hset g 70 3 (nI (skp tx p))) = some g3 := z1
      have z3 : cX tx 1 (nI (skp tx p)) (skp tx p) g3 := z3
      obtain ⟨g1, g2, s1, s2, s3, s4, s5, s6⟩ := stepE hX z3 N hN
      obtain ⟨f3, w1, w2, w3, w4⟩ := wantX a3 false (n := 1) (by omega) (f1 100 8)
      have w1 : K_M_want 0 1 (f1 100 8) f1 = some (0, f3) := w1
      obtain ⟨w5, w6⟩ := w4 rfl
      refine ⟨g1, g2, f3, ?_, s2, ?_, frN_trans fr0 (frN_trans z2 s3), frM_trans a2 w2, .inr ⟨1, nI (skp tx p), by omega, by omega, s4, s5, w5, by rw [w6, a3.1.2.1]⟩⟩
      · rw [kC, if_neg (fun z => c (c59.mp z)), z1, bd_s]; exact s1
      · unfold M_tail
        rw [if_pos (show f 100 10 = 0 from q5), a1, bd2_s, if_neg (fun z => c (m59.mp z))]
        unfold K_M_river_J65
        rw [w1, bd2_s, if_pos rfl]
  · have ne : ¬ f 100 10 = 0 := fun z => by rw [q5] at z; exact cF ((nI_eq_iff (b := 0) (by omega) (by omega)).mp z)
    have kM : M_tail N f = some (.inl f) := by unfold M_tail; rw [if_neg ne]
    have fl : ∃ g3, (nI (chC tx (skp tx p)) = 59 ∧ g3 = hset g 70 3 (nI (skp tx p)) ∨ ¬ nI (chC tx (skp tx p)) = 59 ∧ K_Reader_fail 1 (nI (skp tx p)) (hset g 70 3 (nI (skp tx p))) = some g3) ∧ frN (hset g 70 3 (nI (skp tx p))) g3 ∧ cX tx F P (skp tx p) g3 := by
      by_cases c : nI (chC tx (skp tx p)) = 59
      · exact ⟨_, .inl ⟨c, rfl⟩, frN_refl _, b⟩
      · obtain ⟨g3, z1, z2, z3, z4, z5⟩ := failX b (n := 1) (q := skp tx p) (by omega)
        have e : ffl F P 1 (skp tx p) = (F, P) := by unfold ffl; rw [if_neg cF]
        rw [e] at z3
        exact ⟨g3, .inr ⟨c, z1⟩, z2, z3⟩
    obtain ⟨g3, t1, t2, t3⟩ := fl
    obtain ⟨g1, g2, s1, s2, s3, s4, s5, s6⟩ := stepE hX t3 N hN
    refine ⟨g1, g2, f, ?_, s2, kM, frN_trans fr0 (frN_trans t2 s3), frM_refl f, .inr ⟨F, P, by omega, q1, s4, s5, q5, q6⟩⟩
    rw [kC]
    rcases t1 with ⟨c, e⟩ | ⟨c, e⟩
    · rw [if_pos c, ← e]; exact s1
    · rw [if_neg c, e, bd_s]; exact s1
