/-! the squares told: all rows, and the reference -/
theorem sqOut {tx : List Nat} (hX : okX tx) {P : Int32} {p : Nat} {g : Hp} (N : Nat) (hN : 200 < N) {W H : Nat} (hW : 1 ≤ W ∧ W ≤ 8) (hH : 1 ≤ H ∧ H ≤ 6) {e : Nat} (hle : e ≤ W * H) (okk : ∀ n, n < e → lt tx 1 (skp tx (psq tx p n)) ≠ -1) (obad : e < W * H → lt tx 1 (skp tx (psq tx p e)) = -1) (h : cX tx 0 P p g) : ∃ t, loopN (fun z_ : Int32 × Hp => K_Reader_readSquares_L18 N (nI W) (nI H) z_.1 z_.2) N (0, g) = some t ∧ ((∃ g', t = .inr g' ∧ e = W * H ∧ SqC tx P p W g (W * H) g') ∨ (∃ g', t = .inl g' ∧ e < W * H ∧ SqB tx p e g g')) := by
  refine loopN_inv _ (fun s : Int32 × Hp => ∃ r g', s = (nI r, g') ∧ r ≤ H ∧ W * r ≤ e ∧ SqC tx P p W g (W * r) g') (fun s => H - s.1.toNatClampNeg) _ (fun s hs => ?_) N (0, g) ⟨0, g, rfl, Nat.zero_le _, Nat.zero_le _, h, ⟨fun _ _ _ => rfl, fun _ _ => rfl⟩, fun j hj => absurd hj (Nat.not_lt_zero _), fun _ _ => rfl⟩ (by show H - (0 : Int32).toNatClampNeg < N; omega)
  obtain ⟨r, g2, es, hr, hre, hs⟩ := hs
  subst es
  by_cases rh : r < H
  · have k1 : ¬ nI H ≤ nI r := fun z => by have := (nI_le_iff (by omega) (by omega)).mp z; omega
    obtain ⟨t, l1, l2⟩ := sqIn hX N hN hW hH okk obad rh hre hs
    rcases l2 with ⟨g3, et, c1, c2⟩ | ⟨g3, et, c1, c2⟩
    · left
      refine ⟨(nI (r + 1), g3), ?_, ⟨r + 1, g3, rfl, rh, c1, c2⟩, ?_⟩
      · show K_Reader_readSquares_L18 N (nI W) (nI H) (nI r) g2 = _
        unfold K_Reader_readSquares_L18
        rw [if_neg k1, l1, bd_s, et]
        rw [show nI r + 1 = nI (r + 1) from nI_add r 1]
        rfl
      · show H - (nI (r + 1)).toNatClampNeg < H - (nI r).toNatClampNeg
        rw [nI_cl (by omega), nI_cl (by omega)]
        omega
    · right
      refine ⟨.inl g3, ?_, .inr ⟨g3, rfl, c1, c2⟩⟩
      show K_Reader_readSquares_L18 N (nI W) (nI H) (nI r) g2 = _
      unfold K_Reader_readSquares_L18
      rw [if_neg k1, l1, bd_s, et]
      rfl
  · right
    have rh : r = H := by omega
    subst rh
    refine ⟨.inr g2, ?_, .inl ⟨g2, rfl, Nat.le_antisymm hle hre, hs⟩⟩
    show K_Reader_readSquares_L18 N (nI W) (nI r) (nI r) g2 = _
    unfold K_Reader_readSquares_L18
    rw [if_pos ((nI_le_iff (by omega) (by omega)).mpr (Nat.le_refl _))]
/-- with a fault at hand the class reads one letter of them at most -/
theorem sqFlt {tx : List Nat} (hX : okX tx) {F : Nat} (hF : F ≠ 0) {P : Int32} {p : Nat} {g : Hp} (N : Nat) (hN : 200 < N) {W H : Nat} (hW : 1 ≤ W ∧ W ≤ 8) (hH : 1 ≤ H ∧ H ≤ 6) (h : cX tx F P p g) : ∃ g' p', loopN (fun z_ : Int32 × Hp => K_Reader_readSquares_L18 N (nI W) (nI H) z_.1 z_.2) N (0, g) = some (.inl g') ∧ frN g g' ∧ cX tx F P p' g' := by
  obtain ⟨n, rfl⟩ : ∃ n, N = n + 1 := ⟨N - 1, by omega⟩
  obtain ⟨k, g3, a1, a2, a3, a4⟩ := oneC hX h (n + 1) hN (i := 1) (by decide)
  have e4 : ∃ p', cX tx F P p' g3 := by
    rcases a4 with ⟨b1, b2⟩ | ⟨b1, b2, b3⟩
    · have e : ffl F P 1 (skp tx p) = (F, P) := by unfold ffl; rw [if_neg hF]
      rw [e] at b2
      exact ⟨_, b2⟩
    · exact ⟨_, b3⟩
  obtain ⟨p', e4⟩ := e4
  have F4 := e4.1
  refine ⟨g3, p', ?_, a2, e4⟩
  refine loopN_t n ?_
  show K_Reader_readSquares_L18 (n + 1) (nI W) (nI H) 0 g = _
  unfold K_Reader_readSquares_L18
  have li : loopN (fun z_ : Int32 × Hp => K_Reader_readSquares_L26 (n + 1) (nI W) (nI H) 0 z_.1 z_.2) (n + 1) (0, g) = some (.inl g3) := by
    refine loopN_t n ?_
    show K_Reader_readSquares_L26 (n + 1) (nI W) (nI H) 0 0 g = _
    unfold K_Reader_readSquares_L26
    rw [if_neg (show ¬ nI W ≤ 0 from fun z => by have := (nI_le_iff (b := 0) (by omega) (by omega)).mp z; omega), a1, bd2_s, e4.2.2.1, if_neg (show ¬ nI F = 0 from fun z => hF ((nI_eq_iff (b := 0) (by omega) (by omega)).mp z))]
  rw [if_neg (show ¬ nI H ≤ 0 from fun z => by have := (nI_le_iff (b := 0) (by omega) (by omega)).mp z; omega), li, bd_s]
  rfl
/-- any open square among the first n -/
def anyO (tx : List Nat) (p : Nat) : Nat → Bool
  | 0 => false
  | n + 1 => anyO tx p n || decide (kk tx 1 (skp tx (psq tx p n)) ≠ 1)
theorem anyO_iff (tx : List Nat) (p : Nat) : ∀ n, anyO tx p n = true ↔ ∃ j, j < n ∧ kk tx 1 (skp tx (psq tx p j)) ≠ 1
  | 0 => ⟨fun z => absurd (show false = true from z) (by decide), fun ⟨_, hj, _⟩ => absurd hj (Nat.not_lt_zero _)⟩
  | n + 1 => by
    have ih := anyO_iff tx p n
    show (anyO tx p n || decide (kk tx 1 (skp tx (psq tx p n)) ≠ 1)) = true ↔ _
    rw [Bool.or_eq_true, decide_eq_true_iff, ih]
    refine ⟨fun z => ?_, fun ⟨j, hj, hk⟩ => ?_⟩
    · rcases z with ⟨j, hj, hk⟩ | z
      · exact ⟨j, Nat.lt_succ_of_lt hj, hk⟩
      · exact ⟨n, Nat.lt_succ_self n, z⟩
    · by_cases c : j = n
      · exact .inr (c ▸ hk)
      · exact .inl ⟨j, by omega, hk⟩
def lpM (tx : List Nat) (p : Nat) : Nat → Int32
  | 0 => 0
  | n + 1 => nI (skp tx (psq tx p n))
def b32 (b : Bool) : Int32 := if b = true then 1 else 0
theorem sqM {tx : List Nat} (hX : okX tx) {P : Int32} {p : Nat} {f : Hp} (N : Nat) (hN : 200 < N) {W H : Nat} (hW : 1 ≤ W ∧ W ≤ 8) (hH : 1 ≤ H ∧ H ≤ 6) {e : Nat} (hle : e ≤ W * H) (h48 : W * H ≤ 48) (okk : ∀ n, n < e → lt tx 1 (skp tx (psq tx p n)) ≠ -1) (obad : e < W * H → lt tx 1 (skp tx (psq tx p e)) = -1) (h : mX tx P p f) : ∃ x3 x4 f', loopN (fun z_ : Int32 × Int32 × Int32 × Hp => K_M_takeRiver_L24 N (nI W) (nI H) z_.1 z_.2.1 z_.2.2.1 z_.2.2.2) N (0, 0, 0, f) = some (x3, x4, f') ∧ frR f f' ∧ f' 104 = f 104 ∧ f' 105 = f 105 ∧ ((e = W * H ∧ mX tx P (psq tx p (W * H)) f' ∧ (∀ j, j < W * H → f' 103 (48 + j) = nI (kk tx 1 (skp tx (psq tx p j)))) ∧ x3 = b32 (anyO tx p (W * H)) ∧ x4 = lpM tx p (W * H)) ∨ (e < W * H ∧ f' 100 10 = nI 1 ∧ f' 100 11 = nI (skp tx (psq tx p e)))) := by
  have n64 := hX.1
  obtain ⟨⟨x3, x4, t⟩, l1, f1, f2, f3, f4⟩ := loopN_fx (fun z_ : Int32 × Int32 × Int32 × Hp => K_M_takeRiver_L24 N (nI W) (nI H) z_.1 z_.2.1 z_.2.2.1 z_.2.2.2) (fun i s => ∃ x3 x4 f', s = (x3, x4, nI i, f') ∧ frR f f' ∧ f' 104 = f 104 ∧ f' 105 = f 105 ∧ ((i ≤ e ∧ mX tx P (psq tx p i) f' ∧ (∀ j, j < i → f' 103 (48 + j) = nI (kk tx 1 (skp tx (psq tx p j)))) ∧ x3 = b32 (anyO tx p i) ∧ x4 = lpM tx p i) ∨ (i = e + 1 ∧ e < W * H ∧ f' 100 10 = nI 1 ∧ f' 100 11 = nI (skp tx (psq tx p e))))) (min (e + 1) (W * H)) (fun t => frR f t.2.2 ∧ t.2.2 104 = f 104 ∧ t.2.2 105 = f 105 ∧ ((e = W * H ∧ mX tx P (psq tx p (W * H)) t.2.2 ∧ (∀ j, j < W * H → t.2.2 103 (48 + j) = nI (kk tx 1 (skp tx (psq tx p j)))) ∧ t.1 = b32 (anyO tx p (W * H)) ∧ t.2.1 = lpM tx p (W * H)) ∨ (e < W * H ∧ t.2.2 100 10 = nI 1 ∧ t.2.2 100 11 = nI (skp tx (psq tx p e))))) (fun i s hi hJ => by
      obtain ⟨x3, x4, g1, es, fr, f3, f4, hc⟩ := hJ
      subst es
      rcases hc with ⟨c1, c2, c3, c4, c5⟩ | ⟨c1, _⟩
      · obtain ⟨g2, a1, a2, a3⟩ := hereX hX c2 N hN
        have k8 : ¬ nI W * nI H ≤ nI i := fun z => by
          rw [nI_mul] at z
          have := (nI_le_iff (by omega) (by omega)).mp z
          omega
        by_cases ce : i < e
        · have ne := okk i ce
          have ng : ¬ lt tx 1 (skp tx (psq tx p i)) < 0 := fun z => ne ((lt_neg hX (by decide) _).mp z)
          have lin := lt_in (by decide) ne
          rcases lt_or hX (i := 1) (by decide) (skp tx (psq tx p i)) with z | ⟨ek, bk⟩
          · exact absurd z ne
          have bk : kk tx 1 (skp tx (psq tx p i)) ≤ 6 := bk
          have j97 : ∀ y : Int32, y = b32 (anyO tx p (i + 1)) → K_M_takeRiver_J97 N (nI W) (nI H) (nI i) y (hset g2 103 (48 + i) (nI (kk tx 1 (skp tx (psq tx p i))))) = some (.inl (b32 (anyO tx p (i + 1)), lpM tx p (i + 1), nI (i + 1), hset (hset g2 103 (48 + i) (nI (kk tx 1 (skp tx (psq tx p i))))) 100 8 (nI (skp tx (psq tx p i) + 1)))) := fun y ey => by
            unfold K_M_takeRiver_J97
            rw [hset_ne _ _ _ (by decide), a3.1.2.1, nm_s, show nI (skp tx (psq tx p i)) + 1 = nI (skp tx (psq tx p i) + 1) from nI_add _ 1, nm_s, show nI i + 1 = nI (i + 1) from nI_add i 1, nm_s, ey]
            rfl
          refine ⟨(b32 (anyO tx p (i + 1)), lpM tx p (i + 1), nI (i + 1), hset (hset g2 103 (48 + i) (nI (kk tx 1 (skp tx (psq tx p i))))) 100 8 (nI (skp tx (psq tx p i) + 1))), ?_, _, _, _, rfl, ?_, ?_, ?_, .inl ⟨ce, ?_, fun j hj => ?_, rfl, rfl⟩⟩
          · show K_M_takeRiver_L24 N (nI W) (nI H) x3 x4 (nI i) g1 = _
            unfold K_M_takeRiver_L24
            rw [if_neg k8, if_pos c2.2.1, a1, bd2_s, squareH hX, bd_s, if_neg ng]
            unfold K_M_takeRiver_J59
            rw [want1 a3.2.1, bd2_s, if_neg (by decide), show (48 : Int32) + nI i = nI (48 + i) from nI_add 48 i, sA_nI (by omega) (by omega), nI_cl (by omega), nm_s, ek]
            have ea : anyO tx p (i + 1) = (anyO tx p i || decide (kk tx 1 (skp tx (psq tx p i)) ≠ 1)) := rfl
            have k1 : nI (kk tx 1 (skp tx (psq tx p i))) = 1 ↔ kk tx 1 (skp tx (psq tx p i)) = 1 := nI_eq_iff (b := 1) (by omega) (by omega)
            unfold K_M_takeRiver_J92
            rw [c4]
            cases ca : anyO tx p i
            · rw [if_pos (show b32 false = 0 from rfl)]
              by_cases cd : kk tx 1 (skp tx (psq tx p i)) = 1
              · rw [if_pos (k1.mpr cd)]
                exact j97 0 (by rw [ea, ca, cd]; rfl)
              · rw [if_neg (fun z => cd (k1.mp z))]
                exact j97 1 (by rw [ea, ca, decide_eq_true cd]; rfl)
            · rw [if_neg (show ¬ b32 true = 0 by decide)]
              exact j97 1 (by rw [ea, ca]; rfl)
          · have r1 := frR_set (frR_trans fr (frR_M a2)) (r := 103) (by decide) (48 + i) (nI (kk tx 1 (skp tx (psq tx p i)))) ⟨fun _ => by omega, fun z => absurd z (by decide), fun z => absurd z (by decide)⟩
            exact frR_100 r1 (by decide) _
          · rw [hset_ne _ _ _ (by decide), hset_ne _ _ _ (by decide), a2.1 104 (by decide)]; exact f3
          · rw [hset_ne _ _ _ (by decide), hset_ne _ _ _ (by decide), a2.1 105 (by decide)]; exact f4
          · have m1 : mX tx P (skp tx (psq tx p i)) (hset g2 103 (48 + i) (nI (kk tx 1 (skp tx (psq tx p i))))) := mX_of (hset_ne _ _ _ (by decide)) (hset_ne _ _ _ (by decide)) a3
            exact ⟨mLx_at m1.1 lin, by rw [hset_at, upd_ne _ _ (by decide)]; exact m1.2.1, by rw [hset_at, upd_ne _ _ (by decide)]; exact m1.2.2⟩
          · rw [hset_ne _ _ _ (by decide), hset_at]
            by_cases cj : j = i
            · rw [cj, upd_at]
            · rw [upd_ne _ _ (by omega), a2.1 103 (by decide)]; exact c3 j (by omega)
        · have ie : i = e := by omega
          have b := obad (by omega)
          rw [← ie] at b
          obtain ⟨g3, w1, w2, w3, w4⟩ := wantX a3 false (n := 1) (by omega) (g2 100 8)
          have w1 : K_M_want 0 1 (g2 100 8) g2 = some (0, g3) := w1
          obtain ⟨w5, w6⟩ := w4 rfl
          refine ⟨(x3, x4, nI (i + 1), g3), ?_, _, _, _, rfl, frR_trans fr (frR_M (frM_trans a2 w2)), by rw [w2.1 104 (by decide), a2.1 104 (by decide)]; exact f3, by rw [w2.1 105 (by decide), a2.1 105 (by decide)]; exact f4, .inr ⟨by omega, by omega, w5, by rw [w6, a3.1.2.1, ie]⟩⟩
          show K_M_takeRiver_L24 N (nI W) (nI H) x3 x4 (nI i) g1 = _
          unfold K_M_takeRiver_L24
          rw [if_neg k8, if_pos c2.2.1, a1, bd2_s, squareH hX, bd_s, if_pos ((lt_neg hX (by decide) _).mpr b)]
          unfold K_M_takeRiver_J59
          rw [w1, bd2_s, if_pos rfl, show nI i + 1 = nI (i + 1) from nI_add i 1, nm_s]
      · omega) (fun s hJ => by
      obtain ⟨x3, x4, g1, es, fr, f3, f4, hc⟩ := hJ
      subst es
      rcases hc with ⟨c1, c2, c3, c4, c5⟩ | ⟨c1, c2, c3, c4⟩
      · have e1 : min (e + 1) (W * H) = W * H := by omega
        have e2 : e = W * H := by omega
        rw [e1] at c2 c3 c4 c5
        refine ⟨(x3, x4, g1), ?_, fr, f3, f4, .inl ⟨e2, c2, c3, c4, c5⟩⟩
        rw [e1]
        show K_M_takeRiver_L24 N (nI W) (nI H) x3 x4 (nI (W * H)) g1 = _
        unfold K_M_takeRiver_L24
        rw [nI_mul, if_pos ((nI_le_iff (by omega) (by omega)).mpr (Nat.le_refl _))]
      · refine ⟨(x3, x4, g1), ?_, fr, f3, f4, .inr ⟨c2, c3, c4⟩⟩
        show K_M_takeRiver_L24 N (nI W) (nI H) x3 x4 (nI (min (e + 1) (W * H))) g1 = _
        unfold K_M_takeRiver_L24
        rw [c3]
        by_cases c : nI W * nI H ≤ nI (min (e + 1) (W * H))
        · rw [if_pos c]
        · rw [if_neg c, if_neg (by decide)]) (s0 := (0, 0, 0, f)) ⟨0, 0, f, rfl, frR_refl f, rfl, rfl, .inl ⟨Nat.zero_le _, h, fun j hj => absurd hj (Nat.not_lt_zero _), rfl, rfl⟩⟩ (N := N) (by omega)
  exact ⟨x3, x4, t, l1, f1, f2, f3, f4⟩
