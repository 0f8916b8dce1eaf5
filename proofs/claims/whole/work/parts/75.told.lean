/-! told -/
theorem MO_told_ok (N : Nat) : MO_told N Inv := by
  intro k b0 b1 h x hk H
  have H0 := H
  obtain ⟨a, hv, hC, hM, h4, h5⟩ := H
  have hW := hv.1
  have hR := hC.2.2.1.1
  have hS := hM.1
  have bu := hv.2.2.1.1
  have hP := okU_P hW bu
  have pl := okP_lt hW hP
  have ul := bu.1
  have eB := hC.2.2.2.1
  have mB := hM.2.2.2.2.1
  have fin : ∀ r, K_C_told x h = some r → K_M_told x h = some r → ∃ r, K_C_told x h = some r ∧ K_M_told x h = some r ∧ Inv (k + 1) b0 b1 h := fun r z1 z2 => ⟨r, z1, z2, Inv_0 H0⟩
  by_cases c : 0 ≤ x.toInt ∧ x.toInt ≤ 17
  · obtain ⟨j, hj, ej⟩ := nat_of (x := x) (n := 17) c
    subst ej
    have eC : K_C_told (nI j) h = (if 7 ≤ nI j then ( if 14 ≤ nI j then (bd (K_C_toldOfCounts (nI j) h) <| fun v43 => some v43) else (bd (K_C_toldOfTrip (nI j) h) <| fun v35 => some v35)) else (bd (K_C_toldOfText (nI j) h) <| fun v21 => some v21)) := by
      unfold K_C_told
      rw [outX (x := nI j) (a := 0) (b := 17) (lo := 0) (hi := 17) (by decide) (by decide) (by decide) (by decide) (by decide) (by decide), bd_s, if_pos c, if_pos rfl]
    rw [eC] at fin
    rw [eC]
    clear eC
    have d : j = 0 ∨ j = 1 ∨ j = 2 ∨ j = 3 ∨ j = 4 ∨ j = 5 ∨ j = 6 ∨ j = 7 ∨ j = 8 ∨ j = 9 ∨ j = 10 ∨ j = 11 ∨ j = 12 ∨ j = 13 ∨ j = 14 ∨ j = 15 ∨ j = 16 ∨ j = 17 := by omega
    rcases d with rfl | rfl | rfl | rfl | rfl | rfl | rfl | rfl | rfl | rfl | rfl | rfl | rfl | rfl | rfl | rfl | rfl | rfl
    · refine fin (nI (rW (sR a))) ?_ ?_
      · unfold K_C_toldOfText
        rw [if_neg (by decide), if_pos (by decide), bd_s, hR.1]
      · unfold K_M_told
        rw [if_pos (by decide), gA_lit (x := 0) (i := 0) rfl (by omega) (by omega), hS.1]
    · refine fin (nI (rH (sR a))) ?_ ?_
      · unfold K_C_toldOfText
        rw [if_neg (by decide), if_neg (by decide), if_pos (by decide), bd_s, hR.2.1]
      · unfold K_M_told
        rw [if_neg (by decide), if_pos (by decide), gA_lit (x := 1) (i := 1) rfl (by omega) (by omega), hS.2.1]
    · refine fin (nI (rF (sR a))) ?_ ?_
      · unfold K_C_toldOfText
        rw [if_neg (by decide), if_neg (by decide), if_neg (by decide), if_pos (by decide), bd_s, hR.2.2.1]
      · unfold K_M_told
        rw [if_neg (by decide), if_neg (by decide), if_pos (by decide), gA_lit (x := 2) (i := 2) rfl (by omega) (by omega), hS.2.2.1]
    · refine fin (nI (rB (sR a))) ?_ ?_
      · unfold K_C_toldOfText
        rw [if_neg (by decide), if_neg (by decide), if_neg (by decide), if_neg (by decide), if_pos (by decide), bd_s, hR.2.2.2.1]
      · unfold K_M_told
        rw [if_neg (by decide), if_neg (by decide), if_neg (by decide), if_pos (by decide), gA_lit (x := 3) (i := 3) rfl (by omega) (by omega), hS.2.2.2.1]
    · refine fin (nI (rT (sR a))) ?_ ?_
      · unfold K_C_toldOfText
        rw [if_neg (by decide), if_neg (by decide), if_neg (by decide), if_neg (by decide), if_neg (by decide), if_pos (by decide), bd_s, hR.2.2.2.2.1]
      · unfold K_M_told
        rw [if_neg (by decide), if_neg (by decide), if_neg (by decide), if_neg (by decide), if_pos (by decide), gA_lit (x := 4) (i := 4) rfl (by omega) (by omega), hS.2.2.2.2.1]
    · refine fin (nI (rP (sR a))) ?_ ?_
      · unfold K_C_toldOfText
        rw [if_neg (by decide), if_neg (by decide), if_neg (by decide), if_neg (by decide), if_neg (by decide), if_neg (by decide), if_pos (by decide), bd_s, hR.2.2.2.2.2.1]
      · unfold K_M_told
        rw [if_neg (by decide), if_neg (by decide), if_neg (by decide), if_neg (by decide), if_neg (by decide), if_pos (by decide), gA_lit (x := 5) (i := 5) rfl (by omega) (by omega), hS.2.2.2.2.2.1]
    · refine fin (nI ((sT a).length)) ?_ ?_
      · unfold K_C_toldOfText
        rw [if_neg (by decide), if_neg (by decide), if_neg (by decide), if_neg (by decide), if_neg (by decide), if_neg (by decide), if_neg (by decide), bd_s, hC.1.1]
      · unfold K_M_told
        rw [if_neg (by decide), if_neg (by decide), if_neg (by decide), if_neg (by decide), if_neg (by decide), if_neg (by decide), if_pos (by decide), hM.2.2.1.1]
    · refine fin (nI (10 * ((sB a).1 / 8 % 8) + (sB a).1 / 8 / 8)) ?_ ?_
      · unfold K_C_toldOfTrip
        rw [if_pos (by decide), if_neg (by decide), if_pos (by decide), eB.1, show (8 : Int32) = nI 8 from rfl, nI_div (by omega) (by omega) (by omega), placeK (by omega), bd_s, bd_s]
      · unfold K_M_told
        rw [if_neg (by decide), if_neg (by decide), if_neg (by decide), if_neg (by decide), if_neg (by decide), if_neg (by decide), if_neg (by decide), if_pos (by decide), gA_lit (x := 0) (i := 0) rfl (by omega) (by omega), mB.1, pairM hW hS hP, bd_s]
    · refine fin (nI ((sB a).1 % 8)) ?_ ?_
      · unfold K_C_toldOfTrip
        rw [if_pos (by decide), if_neg (by decide), if_neg (by decide), if_pos (by decide), eB.1, headK (by omega), bd_s, bd_s]
      · unfold K_M_told
        rw [if_neg (by decide), if_neg (by decide), if_neg (by decide), if_neg (by decide), if_neg (by decide), if_neg (by decide), if_neg (by decide), if_neg (by decide), if_pos (by decide), gA_lit (x := 1) (i := 1) rfl (by omega) (by omega), show h 101 1 = _ from mB.2.1]
    · refine fin (nI (sB a).2.1) ?_ ?_
      · unfold K_C_toldOfTrip
        rw [if_pos (by decide), if_neg (by decide), if_neg (by decide), if_neg (by decide), if_pos (by decide), eB.2.1, bd_s]
      · unfold K_M_told
        rw [if_neg (by decide), if_neg (by decide), if_neg (by decide), if_neg (by decide), if_neg (by decide), if_neg (by decide), if_neg (by decide), if_neg (by decide), if_neg (by decide), if_pos (by decide), gA_lit (x := 2) (i := 2) rfl (by omega) (by omega), show h 101 2 = _ from mB.2.2.1]
    · have g8 := hR.2.2.2.2.2.2.2.1
      have s8 := hS.2.2.2.2.2.2.1
      by_cases c : rG (sR a) = 0
      · have k : iI ((rG (sR a) : Int) - 1) = -1 := by rw [c]; decide
        refine fin (-1) ?_ ?_
        · unfold K_C_toldOfTrip
          rw [if_pos (by decide), if_neg (by decide), if_neg (by decide), if_neg (by decide), if_neg (by decide), if_pos (by decide), g8, if_pos k, bd_s]
        · unfold K_M_told
          rw [if_neg (by decide), if_neg (by decide), if_neg (by decide), if_neg (by decide), if_neg (by decide), if_neg (by decide), if_neg (by decide), if_neg (by decide), if_neg (by decide), if_neg (by decide), if_pos (by decide), gA_lit (x := 8) (i := 8) rfl (by omega) (by omega), s8, if_pos c, if_neg (by decide)]
      · have gl := goal_W hW c
        have gi := inR_lt hW gl.1
        have cm := cM_b hW gl.1
        have wh := WH_b hW
        have e : iI ((rG (sR a) : Int) - 1) = nI (rG (sR a) - 1) := by rw [nI_iI]; exact congrArg iI (by omega)
        have k0 : ¬ nI (rG (sR a) - 1) = -1 := by
          rw [nI_iI, show (-1 : Int32) = iI (-1) from by decide, iI_eq_iff (by omega) (by omega) (by omega) (by omega)]
          omega
        have kp : (0 : Int32) ≤ nI (cM (sR a) (rG (sR a) - 1)) ↔ 0 ≤ cM (sR a) (rG (sR a) - 1) := nI_le_iff (a := 0) (by omega) (by omega)
        refine fin (nI (10 * ((rG (sR a) - 1) % 8) + (rG (sR a) - 1) / 8)) ?_ ?_
        · unfold K_C_toldOfTrip
          rw [if_pos (by decide), if_neg (by decide), if_neg (by decide), if_neg (by decide), if_neg (by decide), if_pos (by decide), g8, e, if_neg k0, placeK (by omega), bd_s, bd_s]
        · unfold K_M_told
          rw [if_neg (by decide), if_neg (by decide), if_neg (by decide), if_neg (by decide), if_neg (by decide), if_neg (by decide), if_neg (by decide), if_neg (by decide), if_neg (by decide), if_neg (by decide), if_pos (by decide), gA_lit (x := 8) (i := 8) rfl (by omega) (by omega), s8, if_neg c, if_pos (kp.mpr (Nat.zero_le _)), gA_lit (x := 8) (i := 8) rfl (by omega) (by omega), s8, if_neg c, pairM hW hS ⟨fun z => by have := gl.1.1; omega, fun _ => gl.1⟩, bd_s]
    · refine fin (h 10 9) ?_ ?_
      · unfold K_C_toldOfTrip
        rw [if_pos (by decide), if_neg (by decide), if_neg (by decide), if_neg (by decide), if_neg (by decide), if_neg (by decide), if_pos (by decide), bd_s]
      · unfold K_M_told
        rw [if_neg (by decide), if_neg (by decide), if_neg (by decide), if_neg (by decide), if_neg (by decide), if_neg (by decide), if_neg (by decide), if_neg (by decide), if_neg (by decide), if_neg (by decide), if_neg (by decide), if_pos (by decide), gA_lit (x := 9) (i := 9) rfl (by omega) (by omega), hS.2.2.2.2.2.2.2.1, hR.2.2.2.2.2.2.2.2.1]
    · refine fin (h 10 10) ?_ ?_
      · unfold K_C_toldOfTrip
        rw [if_pos (by decide), if_neg (by decide), if_neg (by decide), if_neg (by decide), if_neg (by decide), if_neg (by decide), if_neg (by decide), if_pos (by decide), bd_s]
      · unfold K_M_told
        rw [if_neg (by decide), if_neg (by decide), if_neg (by decide), if_neg (by decide), if_neg (by decide), if_neg (by decide), if_neg (by decide), if_neg (by decide), if_neg (by decide), if_neg (by decide), if_neg (by decide), if_neg (by decide), if_pos (by decide), gA_lit (x := 10) (i := 10) rfl (by omega) (by omega), hS.2.2.2.2.2.2.2.2.1, hR.2.2.2.2.2.2.2.2.2.1]
    · refine fin (h 10 11) ?_ ?_
      · unfold K_C_toldOfTrip
        rw [if_pos (by decide), if_neg (by decide), if_neg (by decide), if_neg (by decide), if_neg (by decide), if_neg (by decide), if_neg (by decide), if_neg (by decide), bd_s]
      · unfold K_M_told
        rw [if_neg (by decide), if_neg (by decide), if_neg (by decide), if_neg (by decide), if_neg (by decide), if_neg (by decide), if_neg (by decide), if_neg (by decide), if_neg (by decide), if_neg (by decide), if_neg (by decide), if_neg (by decide), if_neg (by decide), if_pos (by decide), gA_lit (x := 11) (i := 11) rfl (by omega) (by omega), hS.2.2.2.2.2.2.2.2.2.1, hR.2.2.2.2.2.2.2.2.2.2.1]
    · have eu : 8 * ((sB a).1 / 8) + (sB a).1 % 8 = (sB a).1 := by omega
      have gm := isGoalM hW hS hP (d := (sB a).1 % 8) (by omega)
      rw [eu] at gm
      refine fin (if isG (sR a) (sB a).1 = true then 1 else 0) ?_ ?_
      · unfold K_C_toldOfCounts
        rw [if_pos (by decide), if_pos (by decide), if_pos (by decide), eB.1, isGoalK hW hR ul, bd_s]
        split <;> rfl
      · unfold K_M_told K_M_one
        rw [if_neg (by decide), if_neg (by decide), if_neg (by decide), if_neg (by decide), if_neg (by decide), if_neg (by decide), if_neg (by decide), if_neg (by decide), if_neg (by decide), if_neg (by decide), if_neg (by decide), if_neg (by decide), if_neg (by decide), if_neg (by decide), if_pos (by decide), gA_lit (x := 0) (i := 0) rfl (by omega) (by omega), mB.1, gA_lit (x := 1) (i := 1) rfl (by omega) (by omega), show h 101 1 = _ from mB.2.1, gm, bd_s]
        split <;> rfl
    · refine fin (nI ((sN a).length)) ?_ ?_
      · unfold K_C_toldOfCounts
        rw [if_pos (by decide), if_pos (by decide), if_neg (by decide), if_pos (by decide), bd_s, hC.2.2.2.2.2.1.1]
      · unfold K_M_told
        rw [if_neg (by decide), if_neg (by decide), if_neg (by decide), if_neg (by decide), if_neg (by decide), if_neg (by decide), if_neg (by decide), if_neg (by decide), if_neg (by decide), if_neg (by decide), if_neg (by decide), if_neg (by decide), if_neg (by decide), if_neg (by decide), if_neg (by decide), if_pos (by decide), hM.2.2.2.2.2.2.1.1]
    · refine fin (nI ((sE a).length)) ?_ ?_
      · unfold K_C_toldOfCounts
        rw [if_pos (by decide), if_pos (by decide), if_neg (by decide), if_neg (by decide), if_pos (by decide), bd_s, hC.2.2.2.2.2.2.1.1]
      · unfold K_M_told
        rw [if_neg (by decide), if_neg (by decide), if_neg (by decide), if_neg (by decide), if_neg (by decide), if_neg (by decide), if_neg (by decide), if_neg (by decide), if_neg (by decide), if_neg (by decide), if_neg (by decide), if_neg (by decide), if_neg (by decide), if_neg (by decide), if_neg (by decide), if_neg (by decide), if_pos (by decide), hM.2.2.2.2.2.2.2.1.1]
    · obtain ⟨nx, _, _, e35, _⟩ := hC.2.2.2.2.1
      refine fin (nI ((sL a).length)) ?_ ?_
      · unfold K_C_toldOfCounts
        rw [if_pos (by decide), if_pos (by decide), if_neg (by decide), if_neg (by decide), if_neg (by decide), bd_s, e35]
      · unfold K_M_told
        rw [if_neg (by decide), if_neg (by decide), if_neg (by decide), if_neg (by decide), if_neg (by decide), if_neg (by decide), if_neg (by decide), if_neg (by decide), if_neg (by decide), if_neg (by decide), if_neg (by decide), if_neg (by decide), if_neg (by decide), if_neg (by decide), if_neg (by decide), if_neg (by decide), if_neg (by decide), if_pos (by decide), hM.2.2.2.2.2.1.1]
  · have nj : ∀ j : Nat, j ≤ 17 → ¬ x = nI j := fun j hj z => c (by rw [z, nI_iI, iI_toInt (by omega) (by omega)]; omega)
    refine fin (-1000000002) ?_ ?_
    · unfold K_C_told
      rw [outX (x := x) (a := 0) (b := 17) (lo := 0) (hi := 17) (by decide) (by decide) (by decide) (by decide) (by decide) (by decide), bd_s, if_neg c, if_neg (by decide)]
    · unfold K_M_told
      rw [if_neg (show ¬ x = 0 from nj 0 (by omega)), if_neg (show ¬ x = 1 from nj 1 (by omega)), if_neg (show ¬ x = 2 from nj 2 (by omega)), if_neg (show ¬ x = 3 from nj 3 (by omega)), if_neg (show ¬ x = 4 from nj 4 (by omega)), if_neg (show ¬ x = 5 from nj 5 (by omega)), if_neg (show ¬ x = 6 from nj 6 (by omega)), if_neg (show ¬ x = 7 from nj 7 (by omega)), if_neg (show ¬ x = 8 from nj 8 (by omega)), if_neg (show ¬ x = 9 from nj 9 (by omega)), if_neg (show ¬ x = 10 from nj 10 (by omega)), if_neg (show ¬ x = 11 from nj 11 (by omega)), if_neg (show ¬ x = 12 from nj 12 (by omega)), if_neg (show ¬ x = 13 from nj 13 (by omega)), if_neg (show ¬ x = 14 from nj 14 (by omega)), if_neg (show ¬ x = 15 from nj 15 (by omega)), if_neg (show ¬ x = 16 from nj 16 (by omega)), if_neg (show ¬ x = 17 from nj 17 (by omega))]
