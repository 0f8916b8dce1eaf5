/-! a step of either side, what it leaves alone -/
theorem IC_up {k k' : Nat} (hk : k ≤ k') {a a' : St} {h h' : Hp} (H : IC k a h) (X : List Nat) (ee : ∀ r ∈ clR, r ∉ X → h' r = h r) (hr : sR a' = sR a := by rfl)
    (c1 : ((∀ r ∈ ([0, 2] : List Nat), r ∉ X) ∧ sT a' = sT a) ∨ cT (sT a') h' := by exact .inl ⟨by decide, rfl⟩)
    (c2 : ((∀ r ∈ ([0] : List Nat), r ∉ X) ∧ sF a' = sF a) ∨ cF (sF a') h' := by exact .inl ⟨by decide, rfl⟩)
    (c3 : (∀ r ∈ ([10, 11, 12, 15, 16, 17, 21, 22] : List Nat), r ∉ X) ∨ cR (sR a') h' := by exact .inl (by decide))
    (c4 : ((∀ r ∈ ([30] : List Nat), r ∉ X) ∧ sB a' = sB a) ∨ cB (sB a') h' := by exact .inl ⟨by decide, rfl⟩)
    (c5 : ((∀ r ∈ ([35, 36] : List Nat), r ∉ X) ∧ sL a' = sL a) ∨ cL (sL a') h' := by exact .inl ⟨by decide, rfl⟩)
    (c6 : ((∀ r ∈ ([60, 61] : List Nat), r ∉ X) ∧ sN a' = sN a) ∨ cN (sN a') h' := by exact .inl ⟨by decide, rfl⟩)
    (c7 : ((∀ r ∈ ([60, 63, 64] : List Nat), r ∉ X) ∧ sE a' = sE a) ∨ cE (sE a') h' := by exact .inl ⟨by decide, rfl⟩)
    (c8 : ((∀ r ∈ ([33, 31] : List Nat), r ∉ X) ∧ sI0 a' = sI0 a) ∨ cI 0 (sI0 a') h' := by exact .inl ⟨by decide, rfl⟩)
    (c9 : ((∀ r ∈ ([33, 32] : List Nat), r ∉ X) ∧ sI1 a' = sI1 a) ∨ cI 1 (sI1 a') h' := by exact .inl ⟨by decide, rfl⟩)
    (c10 : (∀ r ∈ ([40, 43] : List Nat), r ∉ X) ∨ MS (sR a') h' := by exact .inl (by decide))
    (c11 : (∀ r ∈ ([45, 48] : List Nat), r ∉ X) ∨ MC (sR a') k' h' := by exact .inl (by decide))
    (c12 : (∀ r ∈ ([55] : List Nat), r ∉ X) ∨ MG (sR a') h' := by exact .inl (by decide)) : IC k' a' h' := by
  obtain ⟨h1, h2, h3, h4, h5, h6, h7, h8, h9, h10, h11, h12⟩ := H
  refine ⟨?_, ?_, ?_, ?_, ?_, ?_, ?_, ?_, ?_, ?_, ?_, ?_⟩
  · rcases c1 with z | z
    · have m := z.1
      rw [z.2]
      exact cT_of (by rw [ee 0 (by decide) (m 0 (by decide))]) (ee 2 (by decide) (m 2 (by decide))) h1
    · exact z
  · rcases c2 with z | z
    · have m := z.1
      rw [z.2]
      exact cF_of (by rw [ee 0 (by decide) (m 0 (by decide))]) h2
    · exact z
  · rcases c3 with z | z
    · have m := z
      rw [hr]
      exact cR_of (fun r hr => ee r (by revert hr; revert r; decide) (m r hr)) h3
    · exact z
  · rcases c4 with z | z
    · have m := z.1
      rw [z.2]
      exact cB_of (ee 30 (by decide) (m 30 (by decide))) h4
    · exact z
  · rcases c5 with z | z
    · have m := z.1
      rw [z.2]
      exact cL_of (ee 35 (by decide) (m 35 (by decide))) (ee 36 (by decide) (m 36 (by decide))) h5
    · exact z
  · rcases c6 with z | z
    · have m := z.1
      rw [z.2]
      exact cN_of (by rw [ee 60 (by decide) (m 60 (by decide))]) (ee 61 (by decide) (m 61 (by decide))) h6
    · exact z
  · rcases c7 with z | z
    · have m := z.1
      rw [z.2]
      exact cE_of (by rw [ee 60 (by decide) (m 60 (by decide))]) (ee 63 (by decide) (m 63 (by decide))) (ee 64 (by decide) (m 64 (by decide))) h7
    · exact z
  · rcases c8 with z | z
    · have m := z.1
      rw [z.2]
      exact cI_of (by rw [ee 33 (by decide) (m 33 (by decide))]) (ee 31 (by decide) (m 31 (by decide))) h8
    · exact z
  · rcases c9 with z | z
    · have m := z.1
      rw [z.2]
      exact cI_of (by rw [ee 33 (by decide) (m 33 (by decide))]) (ee 32 (by decide) (m 32 (by decide))) h9
    · exact z
  · rcases c10 with z | z
    · have m := z
      rw [hr]
      exact MS_of (ee 40 (by decide) (m 40 (by decide))) (ee 43 (by decide) (m 43 (by decide))) h10
    · exact z
  · rcases c11 with z | z
    · have m := z
      rw [hr]
      exact MC_of hk (ee 45 (by decide) (m 45 (by decide))) (ee 48 (by decide) (m 48 (by decide))) h11
    · exact z
  · rcases c12 with z | z
    · have m := z
      rw [hr]
      exact MG_of (ee 55 (by decide) (m 55 (by decide))) h12
    · exact z
theorem IM_up {a a' : St} {h h' : Hp} (H : IM a h) (X F : List Nat) (ee : ∀ r ∈ ([101, 102, 103, 104, 105, 106, 107, 112, 114, 115] : List Nat), r ∉ X → h' r = h r) (ef : ∀ f ∈ ([7, 11, 12, 16, 26, 32] : List Nat), f ∉ F → h' 100 f = h 100 f) (hr : sR a' = sR a := by rfl) (c2 : h' 100 12 = 0)
    (c1 : ((∀ r ∈ ([103, 104, 105] : List Nat), r ∉ X) ∧ (∀ r ∈ ([] : List Nat), r ∉ F)) ∨ RM (sR a') h' := by exact .inl ⟨by decide, by decide⟩)
    (c3 : ((∀ r ∈ ([106] : List Nat), r ∉ X) ∧ (∀ r ∈ ([7] : List Nat), r ∉ F) ∧ sT a' = sT a) ∨ mT (sT a') h' := by exact .inl ⟨by decide, by decide, rfl⟩)
    (c4 : ((∀ r ∈ ([] : List Nat), r ∉ X) ∧ (∀ r ∈ ([11] : List Nat), r ∉ F) ∧ sF a' = sF a) ∨ mF (sF a') h' := by exact .inl ⟨by decide, by decide, rfl⟩)
    (c5 : ((∀ r ∈ ([101] : List Nat), r ∉ X) ∧ (∀ r ∈ ([] : List Nat), r ∉ F) ∧ sB a' = sB a) ∨ mB (sR a') 0 (sB a') h' := by exact .inl ⟨by decide, by decide, rfl⟩)
    (c6 : ((∀ r ∈ ([107] : List Nat), r ∉ X) ∧ (∀ r ∈ ([16] : List Nat), r ∉ F) ∧ sL a' = sL a ∧ (sB a').2.1 = (sB a).2.1) ∨ mL (sR a') (sB a').2.1 (sL a') h' := by exact .inl ⟨by decide, by decide, rfl, rfl⟩)
    (c7 : ((∀ r ∈ ([112] : List Nat), r ∉ X) ∧ (∀ r ∈ ([26] : List Nat), r ∉ F) ∧ sN a' = sN a) ∨ mN (sR a') (sN a') h' := by exact .inl ⟨by decide, by decide, rfl⟩)
    (c8 : ((∀ r ∈ ([114, 115] : List Nat), r ∉ X) ∧ (∀ r ∈ ([32] : List Nat), r ∉ F) ∧ sE a' = sE a) ∨ mE (sR a') (sE a') h' := by exact .inl ⟨by decide, by decide, rfl⟩)
    (c9 : ((∀ r ∈ ([101, 102] : List Nat), r ∉ X) ∧ (∀ r ∈ ([] : List Nat), r ∉ F) ∧ sI0 a' = sI0 a) ∨ mI (sR a') 0 (sI0 a') h' := by exact .inl ⟨by decide, by decide, rfl⟩)
    (c10 : ((∀ r ∈ ([101, 102] : List Nat), r ∉ X) ∧ (∀ r ∈ ([] : List Nat), r ∉ F) ∧ sI1 a' = sI1 a) ∨ mI (sR a') 1 (sI1 a') h' := by exact .inl ⟨by decide, by decide, rfl⟩) : IM a' h' := by
  obtain ⟨h1, h2, h3, h4, h5, h6, h7, h8, h9, h10⟩ := H
  refine ⟨?_, c2, ?_, ?_, ?_, ?_, ?_, ?_, ?_, ?_⟩
  · rcases c1 with z | z
    · have m := z.1
      have n := z.2
      rw [hr]
      exact RM_of (ee 103 (by decide) (m 103 (by decide))) (ee 104 (by decide) (m 104 (by decide))) (ee 105 (by decide) (m 105 (by decide))) h1
    · exact z
  · rcases c3 with z | z
    · have m := z.1
      have n := z.2.1
      rw [z.2.2]
      exact mT_of (ef 7 (by decide) (n 7 (by decide))) (ee 106 (by decide) (m 106 (by decide))) h3
    · exact z
  · rcases c4 with z | z
    · have m := z.1
      have n := z.2.1
      rw [z.2.2]
      exact mF_of (ef 11 (by decide) (n 11 (by decide))) h4
    · exact z
  · rcases c5 with z | z
    · have m := z.1
      have n := z.2.1
      rw [hr, z.2.2]
      exact mB_of (fun j _ => by rw [ee 101 (by decide) (m 101 (by decide))]) h5
    · exact z
  · rcases c6 with z | z
    · have m := z.1
      have n := z.2.1
      rw [hr, z.2.2.1, z.2.2.2]
      exact mL_of (ef 16 (by decide) (n 16 (by decide))) (ee 107 (by decide) (m 107 (by decide))) h6
    · exact z
  · rcases c7 with z | z
    · have m := z.1
      have n := z.2.1
      rw [hr, z.2.2]
      exact mN_of (ef 26 (by decide) (n 26 (by decide))) (ee 112 (by decide) (m 112 (by decide))) h7
    · exact z
  · rcases c8 with z | z
    · have m := z.1
      have n := z.2.1
      rw [hr, z.2.2]
      exact mE_of (ef 32 (by decide) (n 32 (by decide))) (ee 114 (by decide) (m 114 (by decide))) (ee 115 (by decide) (m 115 (by decide))) h8
    · exact z
  · rcases c9 with z | z
    · have m := z.1
      have n := z.2.1
      rw [hr, z.2.2]
      exact mI_of (by rw [ee 102 (by decide) (m 102 (by decide))]) (fun j _ => by rw [ee 101 (by decide) (m 101 (by decide))]) h9
    · exact z
  · rcases c10 with z | z
    · have m := z.1
      have n := z.2.1
      rw [hr, z.2.2]
      exact mI_of (by rw [ee 102 (by decide) (m 102 (by decide))]) (fun j _ => by rw [ee 101 (by decide) (m 101 (by decide))]) h10
    · exact z
theorem IC_mx {k : Nat} {a : St} {h h1 : Hp} (e1 : h1 31 = h 31) (e2 : h1 32 = h 32) (H : IC k a h1) : IC k a (mx lC h1 h) := by
  refine IC_same (Nat.le_refl _) (fun r hr => ?_) H
  by_cases z : r ∈ lC
  · exact mxC _ _ z
  · rw [mxC_ne _ _ z]
    have : r = 31 ∨ r = 32 := by revert hr z; revert r; decide
    rcases this with q | q <;> subst q
    · exact e1.symm
    · exact e2.symm
/-- an op that goes on on both sides -/
theorem op_CM {k : Nat} {b0 b1 : Bool} {a' : St} {h h1 h2 : Hp} (hv : VS (k + 1) a') (hC : IC (k + 1) a' h1) (e1 : h1 31 = h 31) (e2 : h1 32 = h 32) (hM : IM a' h2) (e3 : (sI0 a').isSome = b0) (e4 : (sI1 a').isSome = b1) : Inv (k + 1) b0 b1 (mx lM h2 (mx lC h1 h)) :=
  Inv_CM hv (IC_mx e1 e2 hC) hM e3 e4
theorem op_no {k : Nat} {b0 b1 : Bool} {h : Hp} (H : Inv k b0 b1 h) : Inv (k + 1) b0 b1 (mx lM (mx lC h h) (mx lC h h)) := by
  obtain ⟨a, h1, h2, h3, h4, h5⟩ := H
  exact op_CM (VS_mono (Nat.le_succ k) h1) (IC_same (Nat.le_succ k) (fun _ _ => rfl) h2) rfl rfl (IM_C h3) h4 h5
theorem outX {x a b : Int32} {lo hi : Int} (ha : a = iI lo) (hb : b = iI hi) (h1 : -2147483648 ≤ lo) (h2 : lo < 2147483648) (h3 : -2147483648 ≤ hi) (h4 : hi < 2147483648) : K_C_isOutside x a b = some (if lo ≤ x.toInt ∧ x.toInt ≤ hi then 0 else 1) := by rw [ha, hb]; exact outK h1 h2 h3 h4
theorem inX {x : Int32} {a b : Int64} {lo hi : Int} (ha : a = iL lo) (hb : b = iL hi) (h1 : -2147483648 ≤ lo) (h2 : lo < 2147483648) (h3 : -2147483648 ≤ hi) (h4 : hi < 2147483648) : K_M_in (Int32.toInt64 x) a b = some (if lo ≤ x.toInt ∧ x.toInt ≤ hi then 1 else 0) := by rw [ha, hb]; exact inMK h1 h2 h3 h4
theorem isSquareX {ρ : Rv} {h : Hp} (hW : WF ρ) (hR : RM ρ h) (x y : Int32) : K_M_isSquare x y h = some (if 0 ≤ x.toInt ∧ x.toInt < rW ρ ∧ 0 ≤ y.toInt ∧ y.toInt < rH ρ then 1 else 0) := by
  unfold K_M_isSquare
  have w := hW.1
  have w2 := hW.2.1
  have e1 : nI (rW ρ) - 1 = iI ((rW ρ : Int) - 1) := by rw [nI_iI]; exact iI_sub _ 1
  have e2 : nI (rH ρ) - 1 = iI ((rH ρ : Int) - 1) := by rw [nI_iI]; exact iI_sub _ 1
  rw [gA_lit (x := 0) (i := 0) rfl (by omega) (by omega), gA_lit (x := 1) (i := 1) rfl (by omega) (by omega), hR.1, hR.2.1, e1, e2, toI64 (by omega) (by omega), toI64 (by omega) (by omega)]
  rw [inX (a := 0) (lo := 0) (hi := (rW ρ : Int) - 1) (by decide) rfl (by omega) (by omega) (by omega) (by omega), bd_s, inX (a := 0) (lo := 0) (hi := (rH ρ : Int) - 1) (by decide) rfl (by omega) (by omega) (by omega) (by omega), bd_s]
  by_cases c1 : 0 ≤ x.toInt ∧ x.toInt ≤ (rW ρ : Int) - 1
  · rw [if_pos c1, if_neg (by decide)]
    by_cases c2 : 0 ≤ y.toInt ∧ y.toInt ≤ (rH ρ : Int) - 1
    · rw [if_pos c2, if_neg (by decide), if_pos (by omega)]
    · rw [if_neg c2, if_pos rfl, if_neg (by omega)]
  · rw [if_neg c1, if_pos rfl, if_neg (by omega)]
theorem hasX {ρ : Rv} {h : Hp} (hW : WF ρ) (hR : RC ρ h) (x y : Int32) : K_River_has x y h = some (if 0 ≤ x.toInt ∧ x.toInt < rW ρ ∧ 0 ≤ y.toInt ∧ y.toInt < rH ρ then 1 else 0) := by
  unfold K_River_has
  have w := hW.1
  have w2 := hW.2.1
  rw [hR.1, hR.2.1]
  have k1 : x < 0 ↔ x.toInt < 0 := Int32.lt_iff_toInt_lt
  have k2 : y < 0 ↔ y.toInt < 0 := Int32.lt_iff_toInt_lt
  have k3 : nI (rW ρ) ≤ x ↔ (rW ρ : Int) ≤ x.toInt := by rw [nI_iI, Int32.le_iff_toInt_le, iI_toInt (by omega) (by omega)]
  have k4 : nI (rH ρ) ≤ y ↔ (rH ρ : Int) ≤ y.toInt := by rw [nI_iI, Int32.le_iff_toInt_le, iI_toInt (by omega) (by omega)]
  by_cases c1 : x.toInt < 0
  · rw [if_pos (k1.mpr c1), if_neg (by omega)]
  · rw [if_neg (fun z => c1 (k1.mp z))]
    by_cases c3 : (rW ρ : Int) ≤ x.toInt
    · rw [if_pos (k3.mpr c3), if_neg (by omega)]
    · rw [if_neg (fun z => c3 (k3.mp z))]
      by_cases c2 : y.toInt < 0
      · rw [if_pos (k2.mpr c2), if_neg (by omega)]
      · rw [if_neg (fun z => c2 (k2.mp z))]
        by_cases c4 : (rH ρ : Int) ≤ y.toInt
        · rw [if_pos (k4.mpr c4), if_neg (by omega)]
        · rw [if_neg (fun z => c4 (k4.mp z)), if_pos (by omega)]
/-- a square of the river, by its numbers -/
theorem sq_of {ρ : Rv} (hW : WF ρ) {x y : Int32} (c : 0 ≤ x.toInt ∧ x.toInt < rW ρ ∧ 0 ≤ y.toInt ∧ y.toInt < rH ρ) : ∃ s, inR ρ s ∧ (y * 8) + x = nI s ∧ y * nI (rW ρ) + x = nI (cM ρ s) ∧ x = nI (s % 8) ∧ y = nI (s / 8) := by
  have w := hW.1
  have w2 := hW.2.1
  obtain ⟨i, hi, ei⟩ := nat_of (x := x) (n := rW ρ) (by omega)
  obtain ⟨j, hj, ej⟩ := nat_of (x := y) (n := rH ρ) (by omega)
  have ti : x.toInt = (i : Int) := by rw [ei, nI_iI, iI_toInt (by omega) (by omega)]
  have tj : y.toInt = (j : Int) := by rw [ej, nI_iI, iI_toInt (by omega) (by omega)]
  have d1 : (8 * j + i) % 8 = i := by omega
  have d2 : (8 * j + i) / 8 = j := by omega
  refine ⟨8 * j + i, ⟨by rw [d1]; omega, by rw [d2]; omega⟩, ?_, ?_, by rw [d1]; exact ei, by rw [d2]; exact ej⟩
  · rw [ei, ej]
    show nI j * nI 8 + nI i = _
    rw [nI_mul, nI_add]
    exact congrArg nI (by omega)
  · rw [ei, ej, nI_mul, nI_add]
    unfold cM
    rw [d1, d2]
    exact congrArg nI (by rw [Nat.mul_comm])
