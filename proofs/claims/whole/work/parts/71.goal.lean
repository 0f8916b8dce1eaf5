/-! goal, place, none: what both sides say of a state -/
theorem lit_nI (n : Nat) : (OfNat.ofNat n : Int32) = nI n := rfl
theorem isNoneM {ρ : Rv} {h : Hp} (hW : WF ρ) (hR : RM ρ h) : K_M_isNone h = some (if rW ρ = 0 then 1 else 0) := by
  have w := hW.1
  have w2 := hW.2.1
  have w3 := hW.2.2.1
  unfold K_M_isNone K_M_squares
  rw [gA_lit (x := 0) (i := 0) rfl (by omega) (by omega), gA_lit (x := 0 + 1) (i := 1) (by decide) (by omega) (by omega), hR.1, hR.2.1, bd_s, nI_mul]
  have b := WH_b hW
  have k : nI (rW ρ * rH ρ) = 0 ↔ rW ρ * rH ρ = 0 := nI_eq_iff (b := 0) (by omega) (by omega)
  by_cases c : rW ρ = 0
  · rw [if_pos (k.mpr (by rw [c, Nat.zero_mul])), if_pos c]
  · rw [if_neg (fun z => ?_), if_neg c]
    rcases Nat.mul_eq_zero.mp (k.mp z) with q | q
    · exact c q
    · exact c (w3.mpr q)
theorem noSquaresK {ρ : Rv} {h : Hp} (hW : WF ρ) (hR : RC ρ h) : K_C_noSquares h = some (if rW ρ = 0 then 1 else 0) := by
  have w := hW.1
  unfold K_C_noSquares
  rw [hR.1]
  have k : nI (rW ρ) = 0 ↔ rW ρ = 0 := nI_eq_iff (b := 0) (by omega) (by omega)
  by_cases c : rW ρ = 0
  · rw [if_pos (k.mpr c), if_pos c]
  · rw [if_neg (fun z => c (k.mp z)), if_neg c]
/-- a square that can be told as a place -/
def okP (ρ : Rv) (s : Nat) : Prop := (rW ρ = 0 → s = 0) ∧ (rW ρ ≠ 0 → inR ρ s)
theorem okU_P {ρ : Rv} (hW : WF ρ) {u : Nat} (h : okU ρ u) : okP ρ (u / 8) := ⟨fun z => by rw [h.2.1 z], fun z => okS_in hW (h.2.2 z)⟩
theorem okP_lt {ρ : Rv} (hW : WF ρ) {s : Nat} (h : okP ρ s) : s < 48 := by
  by_cases c : rW ρ = 0
  · rw [h.1 c]; omega
  · exact inR_lt hW (h.2 c)
theorem placeK {s : Nat} (hs : s < 384) : K_C_placeOf (nI s) = some (nI (10 * (s % 8) + s / 8)) := by
  unfold K_C_placeOf
  rw [show (8 : Int32) = nI 8 from rfl, nI_rem (by omega) (by omega) (by omega), nI_div (by omega) (by omega) (by omega), show (10 : Int32) = nI 10 from rfl, nI_mul, nI_add]
theorem headK {u : Nat} (hu : u < 384) : K_C_headingOf (nI u) = some (nI (u % 8)) := by
  unfold K_C_headingOf
  rw [show (8 : Int32) = nI 8 from rfl, nI_rem (by omega) (by omega) (by omega)]
theorem pairM {ρ : Rv} {h : Hp} (hW : WF ρ) (hR : RM ρ h) {s : Nat} (hs : okP ρ s) : K_M_pair (nI (cM ρ s)) h = some (nI (10 * (s % 8) + s / 8)) := by
  have w := hW.1
  have b := WH_b hW
  unfold K_M_pair
  rw [isNoneM hW hR, bd_s]
  by_cases c : rW ρ = 0
  · rw [if_pos c, if_neg (by decide), hs.1 c]
    rfl
  · have i := hs.2 c
    have cm := cM_b hW i
    have l := inR_lt hW i
    rw [if_neg c, if_pos rfl, gA_lit (x := 0) (i := 0) rfl (by omega) (by omega), hR.1, dz_nI (by omega) (by omega), gA_lit (x := 0) (i := 0) rfl (by omega) (by omega), hR.1, dz_nI (by omega) (by omega)]
    rw [nI_rem (by omega) (by omega) (by omega), nI_div (by omega) (by omega) (by omega), cm.2.1, cm.2.2, show (10 : Int32) = nI 10 from rfl, nI_mul, nI_add]
theorem cM_inj {ρ : Rv} (hW : WF ρ) {s t : Nat} (hs : inR ρ s) (ht : inR ρ t) (e : cM ρ s = cM ρ t) : s = t := by
  have a := cM_b hW hs
  have b := cM_b hW ht
  rw [e] at a
  have x := a.2.1.symm.trans b.2.1
  have y := a.2.2.symm.trans b.2.2
  omega
theorem goal_W {ρ : Rv} (hW : WF ρ) (h : rG ρ ≠ 0) : inR ρ (rG ρ - 1) ∧ rG ρ ≤ 48 := by
  have g := hW.2.2.2.2.2.2.2.1 h
  have i := okS_in hW g
  exact ⟨i, by have := g.1; omega⟩
theorem gh_W {ρ : Rv} (hW : WF ρ) : rGh ρ ≤ 8 := hW.2.2.2.2.2.2.2.2.1
theorem isGoalK {ρ : Rv} {h : Hp} (hW : WF ρ) (hR : RC ρ h) {u : Nat} (hu : u < 384) : K_River_isGoal (nI u) h = some (if isG ρ u = true then 1 else 0) := by
  have g8 := hR.2.2.2.2.2.2.2.1
  have g9 := hR.2.2.2.2.2.2.2.2.1
  have gh := gh_W hW
  unfold K_River_isGoal K_River_isGoal_J39 isG
  rw [show (8 : Int32) = nI 8 from rfl, nI_div (by omega) (by omega) (by omega), nI_rem (by omega) (by omega) (by omega), g8, g9]
  by_cases c : rG ρ = 0
  · have k : iI ((rG ρ : Int) - 1) = -1 := by rw [c]; decide
    rw [if_pos k, if_neg]
    simp [c]
  · have gl := (goal_W hW c).2
    have e : iI ((rG ρ : Int) - 1) = nI (rG ρ - 1) := by rw [nI_iI]; exact congrArg iI (by omega)
    have k0 : ¬ nI (rG ρ - 1) = -1 := by
      rw [nI_iI, show (-1 : Int32) = iI (-1) from by decide, iI_eq_iff (by omega) (by omega) (by omega) (by omega)]
      omega
    have k1 : nI (u / 8) = nI (rG ρ - 1) ↔ u / 8 = rG ρ - 1 := nI_eq_iff (by omega) (by omega)
    have k2 : nI (rGh ρ) = nI 8 ↔ rGh ρ = 8 := nI_eq_iff (by omega) (by omega)
    have k3 : nI (u % 8) = nI (rGh ρ) ↔ u % 8 = rGh ρ := nI_eq_iff (by omega) (by omega)
    rw [e, if_neg k0, if_neg c]
    by_cases c1 : u / 8 = rG ρ - 1
    · rw [if_pos (k1.mpr c1)]
      by_cases c2 : rGh ρ = 8
      · rw [if_pos (k2.mpr c2), if_pos (by simp [c, c1, c2])]
      · rw [if_neg (fun z => c2 (k2.mp z))]
        by_cases c3 : u % 8 = rGh ρ
        · rw [if_pos (k3.mpr c3), if_pos (by simp [c, c1, c3])]
        · rw [if_neg (fun z => c3 (k3.mp z)), if_neg (by simp [c2]; intro _ _ z; exact c3 z.symm)]
    · rw [if_neg (fun z => c1 (k1.mp z)), if_neg (by simp [c1])]
theorem isGoalM {ρ : Rv} {h : Hp} (hW : WF ρ) (hR : RM ρ h) {s d : Nat} (hs : okP ρ s) (hd : d < 8) : K_M_isGoal (nI (cM ρ s)) (nI d) h = some (if isG ρ (8 * s + d) = true then 1 else 0) := by
  have g8 := hR.2.2.2.2.2.2.1
  have g9 := hR.2.2.2.2.2.2.2.1
  have gh := gh_W hW
  have b := WH_b hW
  have x1 : (8 * s + d) / 8 = s := by omega
  have x2 : (8 * s + d) % 8 = d := by omega
  unfold K_M_isGoal K_M_isGoal_J44 isG
  rw [x1, x2, gA_lit (x := 8) (i := 8) rfl (by omega) (by omega), gA_lit (x := 8) (i := 8) rfl (by omega) (by omega), gA_lit (x := 9) (i := 9) rfl (by omega) (by omega), gA_lit (x := 9) (i := 9) rfl (by omega) (by omega), g8, g9]
  by_cases c : rG ρ = 0
  · rw [if_pos c, if_pos (by decide), if_neg]
    simp [c]
  · have gl := goal_W hW c
    have cg := cM_b hW gl.1
    have w0 : rW ρ ≠ 0 := fun z => by have := gl.1.1; omega
    have hi := hs.2 w0
    have cs := cM_b hW hi
    have k1 : nI (cM ρ s) = nI (cM ρ (rG ρ - 1)) ↔ s = rG ρ - 1 := by
      rw [nI_eq_iff (by omega) (by omega)]
      exact ⟨fun z => cM_inj hW hi gl.1 z, fun z => by rw [z]⟩
    have k2 : nI (rGh ρ) = (8 : Int32) ↔ rGh ρ = 8 := nI_eq_iff (b := 8) (by omega) (by omega)
    have k3 : nI (rGh ρ) = nI d ↔ rGh ρ = d := nI_eq_iff (by omega) (by omega)
    rw [if_neg c, if_neg c, if_neg (nI_not_neg (by omega))]
    by_cases c1 : s = rG ρ - 1
    · rw [if_pos (k1.mpr c1)]
      by_cases c2 : rGh ρ = 8
      · rw [if_pos (k2.mpr c2), if_pos (by simp [c, c1, c2])]
      · rw [if_neg (fun z => c2 (k2.mp z))]
        by_cases c3 : rGh ρ = d
        · rw [if_pos (k3.mpr c3), if_pos (by simp [c, c1, c3])]
        · rw [if_neg (fun z => c3 (k3.mp z)), if_neg (by simp [c2]; intro _ _ z; exact c3 z)]
    · rw [if_neg (fun z => c1 (k1.mp z)), if_neg (by simp [c1])]
