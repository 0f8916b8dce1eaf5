/-! the river as numbers, and where a stroke leads: what is meant, and the class's side -/
abbrev Rv : Type := (Nat → Nat) × (Nat → Nat) × (Nat → Nat)
abbrev rW (ρ : Rv) : Nat := ρ.1 0
abbrev rH (ρ : Rv) : Nat := ρ.1 1
abbrev rF (ρ : Rv) : Nat := ρ.1 2
abbrev rB (ρ : Rv) : Nat := ρ.1 3
abbrev rT (ρ : Rv) : Nat := ρ.1 4
abbrev rP (ρ : Rv) : Nat := ρ.1 5
abbrev rG (ρ : Rv) : Nat := ρ.1 6
abbrev rGh (ρ : Rv) : Nat := ρ.1 7
abbrev rWw (ρ : Rv) : Nat := ρ.1 8
abbrev rWe (ρ : Rv) : Nat := ρ.1 9
abbrev rS (ρ : Rv) : Nat := ρ.1 10
abbrev kd (ρ : Rv) : Nat → Nat := ρ.2.1
abbrev hbt (ρ : Rv) : Nat → Nat := ρ.2.2
def okS (ρ : Rv) (s : Nat) : Prop := s < 48 ∧ kd ρ s ≠ 1
/-- a well formed river -/
def WF (ρ : Rv) : Prop := rW ρ ≤ 8 ∧ rH ρ ≤ 6 ∧ (rW ρ = 0 ↔ rH ρ = 0) ∧ (1 ≤ rF ρ ∧ rF ρ ≤ 9) ∧ (1 ≤ rB ρ ∧ rB ρ ≤ 9) ∧ (1 ≤ rT ρ ∧ rT ρ ≤ 20) ∧ (1 ≤ rP ρ ∧ rP ρ ≤ 20) ∧
  (rG ρ ≠ 0 → okS ρ (rG ρ - 1)) ∧ rGh ρ ≤ 8 ∧ rWw ρ ≤ 4 ∧ rWe ρ ≤ 9 ∧ (rWw ρ = 0 ↔ rWe ρ = 0) ∧ (∀ s, kd ρ s ≤ 6) ∧ (∀ s, ¬ (s % 8 < rW ρ ∧ s / 8 < rH ρ) → kd ρ s = 1) ∧ (∀ j, hbt ρ j ≤ 3) ∧ rS ρ < 384 ∧ (rW ρ = 0 → rS ρ = 0) ∧ (rW ρ ≠ 0 → okS ρ (rS ρ / 8))
def eI (d : Nat) : Int := ([0, 1, 1, 1, 0, -1, -1, -1] : List Int).getD (d % 8) 0
def sI (d : Nat) : Int := ([-1, -1, 0, 1, 1, 1, 0, -1] : List Int).getD (d % 8) 0
theorem eI_b (d : Nat) : -1 ≤ eI d ∧ eI d ≤ 1 := by
  have h : ∀ j, j < 8 → -1 ≤ ([0, 1, 1, 1, 0, -1, -1, -1] : List Int).getD j 0 ∧ ([0, 1, 1, 1, 0, -1, -1, -1] : List Int).getD j 0 ≤ 1 := by decide
  exact h _ (by omega)
theorem sI_b (d : Nat) : -1 ≤ sI d ∧ sI d ≤ 1 := by
  have h : ∀ j, j < 8 → -1 ≤ ([-1, -1, 0, 1, 1, 1, 0, -1] : List Int).getD j 0 ∧ ([-1, -1, 0, 1, 1, 1, 0, -1] : List Int).getD j 0 ≤ 1 := by decide
  exact h _ (by omega)
/-- one square on, if it may -/
def nb (ρ : Rv) (s d : Nat) : Nat :=
  if ((s % 8 : Nat) : Int) + eI d < 0 ∨ 8 ≤ ((s % 8 : Nat) : Int) + eI d ∨ ((s / 8 : Nat) : Int) + sI d < 0 ∨ 6 ≤ ((s / 8 : Nat) : Int) + sI d then s
  else if kd ρ ((((s / 8 : Nat) : Int) + sI d) * 8 + (((s % 8 : Nat) : Int) + eI d)).toNat = 1 then s
  else ((((s / 8 : Nat) : Int) + sI d) * 8 + (((s % 8 : Nat) : Int) + eI d)).toNat
theorem nb_ok {ρ : Rv} {s d : Nat} (h : okS ρ s) : okS ρ (nb ρ s d) := by
  unfold nb
  split
  · exact h
  · split
    · exact h
    · rename_i h1 h2
      exact ⟨by omega, h2⟩
theorem nb_lt {ρ : Rv} {s d : Nat} (h : s < 48) : nb ρ s d < 48 := by
  unfold nb
  split
  · exact h
  · split
    · exact h
    · omega
def nbs (ρ : Rv) (d : Nat) : Nat → Nat → Nat
  | 0, s => s
  | n + 1, s => nbs ρ d n (nb ρ s d)
theorem nbs_ok {ρ : Rv} {d : Nat} : ∀ (n : Nat) {s : Nat}, okS ρ s → okS ρ (nbs ρ d n s)
  | 0, _, h => h
  | n + 1, _, h => nbs_ok n (nb_ok h)
theorem nbs_lt {ρ : Rv} {d : Nat} : ∀ (n : Nat) {s : Nat}, s < 48 → nbs ρ d n s < 48
  | 0, _, h => h
  | n + 1, _, h => nbs_lt n (nb_lt h)
/-- where a push leads, the stream told in: d is the heading, q the push -/
def pu0 (ρ : Rv) (s d : Nat) (q : Int) : Nat := if kd ρ s = 2 then s else nbs ρ (if q < 0 then d + 4 else d) q.natAbs s
def stm (ρ : Rv) (s : Nat) : Nat := if 3 ≤ kd ρ s then nb ρ s (2 * (kd ρ s - 3)) else s
def pu (ρ : Rv) (s d : Nat) (q : Int) : Nat := stm ρ (pu0 ρ s d q)
def bl (ρ : Rv) (s : Nat) : Nat := if rWw ρ = 0 then s else nb ρ s (2 * (rWw ρ - 1))
theorem pu_ok {ρ : Rv} {s d : Nat} {q : Int} (h : okS ρ s) : okS ρ (pu ρ s d q) := by
  have h1 : okS ρ (pu0 ρ s d q) := by
    unfold pu0
    split
    · exact h
    · exact nbs_ok _ h
  unfold pu stm
  split
  · exact nb_ok h1
  · exact h1
theorem pu_lt {ρ : Rv} {s d : Nat} {q : Int} (h : s < 48) : pu ρ s d q < 48 := by
  have h1 : pu0 ρ s d q < 48 := by
    unfold pu0
    split
    · exact h
    · exact nbs_lt _ h
  unfold pu stm
  split
  · exact nb_lt h1
  · exact h1
theorem bl_ok {ρ : Rv} {s : Nat} (h : okS ρ s) : okS ρ (bl ρ s) := by
  unfold bl
  split
  · exact h
  · exact nb_ok h
theorem bl_lt {ρ : Rv} {s : Nat} (h : s < 48) : bl ρ s < 48 := by
  unfold bl
  split
  · exact h
  · exact nb_lt h
def sdI (a : Nat) : Int := if a = 0 then 1 else if a = 1 then -1 else 0
def pkI (a : Nat) : Int := if a = 2 then -1 else if a = 3 then 0 else 1
def clI (v : Int) : Int := if v < -2 then -2 else if 2 < v then 2 else v
def trI (ρ : Rv) (kn p : Nat) : Int := (((rF ρ + kn : Nat) : Int) * sdI (p / 4) + 2 * (rB ρ : Int) * sdI (p % 4)).tdiv (rT ρ)
def psI (ρ : Rv) (kn p : Nat) : Int := clI ((((rF ρ + kn : Nat) : Int) * pkI (p / 4) + (rB ρ : Int) * pkI (p % 4)).tdiv (rP ρ))
def tmv (ρ : Rv) : Nat := if 1 < rWe ρ then rWe ρ else 1
def dd (d : Nat) (t : Int) : Nat := (((d : Int) + t).emod 8).toNat
theorem dd_lt (d : Nat) (t : Int) : dd d t < 8 := by
  unfold dd
  have h1 := Int.emod_nonneg ((d : Int) + t) (by decide : (8 : Int) ≠ 0)
  have h2 := Int.emod_lt_of_pos ((d : Int) + t) (by decide : (0 : Int) < 8)
  show (((d : Int) + t) % 8).toNat < 8
  omega
/-- a calm stroke: from a spot (8 times the square and the heading) to a spot -/
def cal (ρ : Rv) (kn u p : Nat) : Nat := 8 * pu ρ (u / 8) (dd (u % 8) (trI ρ kn p)) (psI ρ kn p) + dd (u % 8) (trI ρ kn p)
def gus (ρ : Rv) (u : Nat) : Nat := 8 * bl ρ (u / 8) + u % 8
/-- a stroke: from a moment (384 times the time behind the wind, and the spot) to a moment -/
def aft (ρ : Rv) (kn m p : Nat) : Nat := if m / 384 + 1 < tmv ρ then 384 * (m / 384 + 1) + cal ρ kn (m % 384) p else gus ρ (cal ρ kn (m % 384) p)
theorem cal_lt {ρ : Rv} {kn u p : Nat} (h : u < 384) : cal ρ kn u p < 384 := by
  unfold cal
  have h1 := pu_lt (ρ := ρ) (s := u / 8) (d := dd (u % 8) (trI ρ kn p)) (q := psI ρ kn p) (by omega)
  have h2 := dd_lt (u % 8) (trI ρ kn p)
  omega
theorem gus_lt {ρ : Rv} {u : Nat} (h : u < 384) : gus ρ u < 384 := by
  unfold gus
  have h1 := bl_lt (ρ := ρ) (s := u / 8) (by omega)
  omega
theorem tmv_b {ρ : Rv} (h : WF ρ) : 1 ≤ tmv ρ ∧ tmv ρ ≤ 9 := by
  obtain ⟨-, -, -, -, -, -, -, -, -, -, h1, -⟩ := h
  unfold tmv
  split <;> omega
theorem aft_lt {ρ : Rv} {kn m p : Nat} (hm : m / 384 < tmv ρ) (hw : WF ρ) : aft ρ kn m p / 384 < tmv ρ ∧ aft ρ kn m p < 3456 := by
  have h1 := cal_lt (ρ := ρ) (kn := kn) (u := m % 384) (p := p) (Nat.mod_lt _ (by decide))
  have h2 := gus_lt (ρ := ρ) h1
  have h3 := tmv_b hw
  unfold aft
  split <;> omega
/-- the class's river and its tables hold this river -/
def RC (ρ : Rv) (h : Hp) : Prop := h 10 0 = nI (rW ρ) ∧ h 10 1 = nI (rH ρ) ∧ h 10 3 = nI (rF ρ) ∧ h 10 4 = nI (rB ρ) ∧ h 10 5 = nI (rT ρ) ∧ h 10 6 = nI (rP ρ) ∧ h 10 7 = nI (rS ρ) ∧
  h 10 8 = iI ((rG ρ : Int) - 1) ∧ h 10 9 = (if rG ρ = 0 then -1 else nI (rGh ρ)) ∧ h 10 10 = iI ((rWw ρ : Int) - 1) ∧ h 10 11 = nI (rWe ρ) ∧ (∀ s, s < 48 → h 11 s = nI (kd ρ s)) ∧ (∀ j, j < 8 → h 12 j = nI (hbt ρ j))
def RL (ρ : Rv) (h : Hp) : Prop := h 15 2 = nI (tmv ρ) ∧ (∀ i, i < 1920 → h 16 i = nI (pu ρ (i / 5 / 8) (i / 5 % 8) ((i % 5 : Nat) - 2 : Int))) ∧ ∀ s, s < 48 → h 17 s = nI (bl ρ s)
def RK (ρ : Rv) (kn : Nat) (h : Hp) : Prop := ∀ p, p < 16 → h 21 p = iI (trI ρ kn p) ∧ h 22 p = iI (psI ρ kn p)
theorem eastK (d : Nat) (hd : d < 4294967296) : K_C_eastOf (nI d) = some (iI (eI d)) := by
  unfold K_C_eastOf
  rw [and7_nI hd, gA_nI (by omega) (by omega)]
  have h : ∀ j, j < 8 → eastV j = iI (eI j) := by decide
  have e : eI d = eI (d % 8) := by unfold eI; rw [Nat.mod_mod]
  rw [h _ (by omega), e]
theorem southK (d : Nat) (hd : d < 4294967296) : K_C_southOf (nI d) = some (iI (sI d)) := by
  unfold K_C_southOf
  rw [and7_nI hd, gA_nI (by omega) (by omega)]
  have h : ∀ j, j < 8 → southV j = iI (sI j) := by decide
  have e : sI d = sI (d % 8) := by unfold sI; rw [Nat.mod_mod]
  rw [h _ (by omega), e]
theorem kindK {ρ : Rv} {h : Hp} (hR : RC ρ h) {s : Nat} (hs : s < 48) : K_River_kindOf (nI s) h = some (nI (kd ρ s)) := by
  unfold K_River_kindOf
  rw [if_neg (nI_not_neg (by omega)), if_neg, gA_nI hs (by omega)]
  · rw [hR.2.2.2.2.2.2.2.2.2.2.2.1 s hs]
  · show ¬ nI 48 ≤ nI s
    rw [nI_le_iff (by omega) (by omega)]; omega
theorem neighK {ρ : Rv} {h : Hp} (hW : WF ρ) (hR : RC ρ h) {s d : Nat} (hs : s < 48) (hd : d < 1000) : K_River_neighbour (nI s) (nI d) h = some (nI (nb ρ s d)) := by
  unfold K_River_neighbour
  rw [eastK d (by omega), southK d (by omega)]
  have e8 : (8 : Int32) = nI 8 := rfl
  have e0 : (0 : Int32) = iI 0 := rfl
  have b1 := eI_b d
  have b2 := sI_b d
  have x1 : rm32 (nI s) 8 + iI (eI d) = iI (((s % 8 : Nat) : Int) + eI d) := by rw [e8, nI_rem (by omega) (by omega) (by omega), nI_iI, iI_add]
  have x2 : nI s / 8 + iI (sI d) = iI (((s / 8 : Nat) : Int) + sI d) := by rw [e8, nI_div (by omega) (by omega) (by omega), nI_iI, iI_add]
  simp only [bd_s, nm_s, x1, x2]
  generalize hx : ((s % 8 : Nat) : Int) + eI d = x at *
  generalize hy : ((s / 8 : Nat) : Int) + sI d = y at *
  have hxb : -1 ≤ x ∧ x ≤ 8 := by omega
  have hyb : -1 ≤ y ∧ y ≤ 6 := by omega
  have c1 : iI x < 0 ↔ x < 0 := by rw [e0]; exact iI_lt_iff (by omega) (by omega) (by omega) (by omega)
  have c2 : (8 : Int32) ≤ iI x ↔ 8 ≤ x := iI_le_iff (a := 8) (by omega) (by omega) (by omega) (by omega)
  have c3 : iI y < 0 ↔ y < 0 := by rw [e0]; exact iI_lt_iff (by omega) (by omega) (by omega) (by omega)
  have c4 : iI y < (6 : Int32) ↔ y < 6 := iI_lt_iff (b := 6) (by omega) (by omega) (by omega) (by omega)
  unfold nb
  rw [hx, hy]
  by_cases d1 : x < 0
  · rw [if_pos (c1.mpr d1), if_pos (Or.inl d1)]
  · rw [if_neg (fun z => d1 (c1.mp z))]
    by_cases d2 : 8 ≤ x
    · rw [if_pos (c2.mpr d2), if_pos (Or.inr (Or.inl d2))]
    · rw [if_neg (fun z => d2 (c2.mp z))]
      by_cases d3 : y < 0
      · rw [if_pos (c3.mpr d3), if_pos (Or.inr (Or.inr (Or.inl d3)))]
      · rw [if_neg (fun z => d3 (c3.mp z))]
        by_cases d4 : y < 6
        · rw [if_pos (c4.mpr d4), if_neg (by omega)]
          have e1 : iI y * 8 + iI x = nI (y * 8 + x).toNat := by
            show iI y * iI 8 + iI x = _
            rw [iI_mul, iI_add, nI_iI]
            congr 1
            omega
          have hk := kindK hR (s := (y * 8 + x).toNat) (by omega)
          rw [e1, hk]
          simp only [bd_s]
          have hk6 : kd ρ (y * 8 + x).toNat ≤ 6 := hW.2.2.2.2.2.2.2.2.2.2.2.2.1 _
          have c5 : nI (kd ρ (y * 8 + x).toNat) = (1 : Int32) ↔ kd ρ (y * 8 + x).toNat = 1 := nI_eq_iff (b := 1) (by omega) (by omega)
          by_cases d5 : kd ρ (y * 8 + x).toNat = 1
          · rw [if_pos (c5.mpr d5), if_pos d5]
          · rw [if_neg (fun z => d5 (c5.mp z)), if_neg d5]
        · rw [if_neg (fun z => d4 (c4.mp z)), if_pos (by omega)]
