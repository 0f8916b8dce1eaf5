/-! keep, goBack -/
theorem keep0C (h : Hp) : ∃ h1, K_C_keep_0 h = some (1, h1) ∧ h1 30 = h 30 ∧ (h1 31 0 = h 30 0 ∧ h1 31 1 = h 30 1 ∧ h1 31 2 = h 30 2) ∧ (h1 33 0 = 1 ∧ h1 33 1 = h 33 1) ∧ (h1 35 2 = 0 ∧ h1 35 1 = h 35 1) ∧ ∀ r, r ∉ ([30, 31, 32, 33, 34, 35] : List Nat) → h1 r = h r := by
  refine ⟨_, rfl, ?_, ?_, ?_, ?_, ?_⟩
  · simp [mx, hset, hrow, upd, hkf, hkb]
  · simp [mx, hset, hrow, upd, hkf, hkb]
  · simp [mx, hset, hrow, upd, hkf, hkb]
  · simp [mx, hset, hrow, upd, hkf, hkb]
  · intro r hr
    simp only [List.mem_cons, List.not_mem_nil, or_false, not_or] at hr
    simp [mx, hset, hrow, hkf, hkb, hr]
theorem keep1C (h : Hp) : ∃ h1, K_C_keep_1 h = some (1, h1) ∧ h1 30 = h 30 ∧ (h1 32 0 = h 30 0 ∧ h1 32 1 = h 30 1 ∧ h1 32 2 = h 30 2) ∧ (h1 33 1 = 1 ∧ h1 33 0 = h 33 0) ∧ (h1 35 2 = 0 ∧ h1 35 1 = h 35 1) ∧ ∀ r, r ∉ ([30, 31, 32, 33, 34, 35] : List Nat) → h1 r = h r := by
  refine ⟨_, rfl, ?_, ?_, ?_, ?_, ?_⟩
  · simp [mx, hset, hrow, upd, hkf, hkb]
  · simp [mx, hset, hrow, upd, hkf, hkb]
  · simp [mx, hset, hrow, upd, hkf, hkb]
  · simp [mx, hset, hrow, upd, hkf, hkb]
  · intro r hr
    simp only [List.mem_cons, List.not_mem_nil, or_false, not_or] at hr
    simp [mx, hset, hrow, hkf, hkb, hr]
theorem copyM (N : Nat) (hN : 200 < N) (h : Hp) {x y : Nat} (hx : x ≤ 8) (hy : y ≤ 8) (hd : x + 4 ≤ y ∨ y + 4 ≤ x) : ∃ h1, K_M_copy N (nI x) (nI y) h = some h1 ∧ (∀ r, r ≠ 101 → h1 r = h r) ∧ (∀ j, j < 4 → h1 101 (y + j) = h 101 (x + j)) ∧ ∀ j, (j < y ∨ y + 4 ≤ j) → h1 101 j = h 101 j := by
  obtain ⟨t, l1, l2⟩ := loopN_fx (fun z_ : Int32 × Hp => K_M_copy_L2 N (nI x) (nI y) z_.1 z_.2) (fun i s => s.1 = nI i ∧ (∀ r, r ≠ 101 → s.2 r = h r) ∧ (∀ j, j < i → s.2 101 (y + j) = h 101 (x + j)) ∧ ∀ j, (j < y ∨ y + i ≤ j) → s.2 101 j = h 101 j) 4 (fun t => (∀ r, r ≠ 101 → t r = h r) ∧ (∀ j, j < 4 → t 101 (y + j) = h 101 (x + j)) ∧ ∀ j, (j < y ∨ y + 4 ≤ j) → t 101 j = h 101 j) (fun i s hi hJ => by
      obtain ⟨x1, g⟩ := s
      obtain ⟨e1, e2, e3, e4⟩ := hJ
      have e1 : x1 = nI i := e1
      have e2 : ∀ r, r ≠ 101 → g r = h r := e2
      have e3 : ∀ j, j < i → g 101 (y + j) = h 101 (x + j) := e3
      have e4 : ∀ j, (j < y ∨ y + i ≤ j) → g 101 j = h 101 j := e4
      refine ⟨(nI (i + 1), hset g 101 (y + i) (g 101 (x + i))), ?_, rfl, fun r hr => ?_, fun j hj => ?_, fun j hj => ?_⟩
      · show K_M_copy_L2 N (nI x) (nI y) x1 g = _
        unfold K_M_copy_L2
        rw [e1, if_neg (fun q => by have := (nI_le_iff (a := 4) (by omega) (by omega)).mp q; omega), nI_add, nI_add, gA_nI (by omega) (by omega), sA_nI (by omega) (by omega), nI_cl (by omega), nm_s, show (1 : Int32) = nI 1 from rfl, nI_add, nm_s]
      · show hset g 101 _ _ r = _
        rw [hset_ne _ _ _ hr]; exact e2 r hr
      · show hset g 101 _ _ 101 (y + j) = _
        rw [hset_at]
        by_cases c : j = i
        · subst c
          rw [upd_at]
          exact e4 _ (by omega)
        · rw [upd_ne _ _ (by omega)]
          exact e3 j (by omega)
      · show hset g 101 _ _ 101 j = _
        rw [hset_at, upd_ne _ _ (by omega)]
        exact e4 j (by omega)) (fun s hJ => by
      obtain ⟨x1, g⟩ := s
      obtain ⟨e1, e2⟩ := hJ
      have e1 : x1 = nI 4 := e1
      refine ⟨g, ?_, e2⟩
      show K_M_copy_L2 N (nI x) (nI y) x1 g = _
      unfold K_M_copy_L2
      rw [e1, if_pos (by decide)]) (s0 := (0, h)) ⟨rfl, fun _ _ => rfl, fun j hj => absurd hj (Nat.not_lt_zero _), fun _ _ => rfl⟩ (N := N) (by omega)
  refine ⟨t, ?_, l2⟩
  unfold K_M_copy
  rw [l1, bd_s]
def aI0 (a : St) (im : Im) : St := (sR a, sT a, sF a, sB a, sL a, sN a, sE a, im, sI1 a)
def aI1 (a : St) (im : Im) : St := (sR a, sT a, sF a, sB a, sL a, sN a, sE a, sI0 a, im)
abbrev lK0 : List Nat := [0, 2, 10, 11, 12, 15, 16, 17, 20, 21, 22, 25, 26, 27, 30, 35, 36, 40, 41, 42, 43, 45, 46, 47, 48, 49, 55, 56, 60, 61, 62, 63, 64, 33, 31]
abbrev lK1 : List Nat := [0, 2, 10, 11, 12, 15, 16, 17, 20, 21, 22, 25, 26, 27, 30, 35, 36, 40, 41, 42, 43, 45, 46, 47, 48, 49, 55, 56, 60, 61, 62, 63, 64, 33, 32]
theorem mx_in {L : List Nat} (h1 h : Hp) {r : Nat} (hr : r ∈ L) : mx L h1 h r = h1 r := by unfold mx; rw [if_pos hr]
theorem mx_out {L : List Nat} (h1 h : Hp) {r : Nat} (hr : r ∉ L) : mx L h1 h r = h r := by unfold mx; rw [if_neg hr]
theorem mx_rows {L : List Nat} {h1 h : Hp} {r : Nat} (e : r ∈ L → h1 r = h r) : mx L h1 h r = h r := by
  by_cases c : r ∈ L
  · rw [mx_in _ _ c]; exact e c
  · exact mx_out _ _ c
/-- the reference's side of keep i -/
theorem keepM {a : St} {h : Hp} (N : Nat) (hN : 200 < N) (hM : IM a h) {i : Nat} (hi : i < 2) : ∃ h2, K_M_keep N (nI i) h = some (1, h2) ∧ (∀ r, r ∉ ([100, 101, 102] : List Nat) → h2 r = h r) ∧ (∀ f, f ≠ 16 → h2 100 f = h 100 f) ∧ h2 100 16 = 0 ∧ (∀ j, j < 4 → h2 101 (4 + 4 * i + j) = h 101 j) ∧ (∀ j, (j < 4 + 4 * i ∨ 8 + 4 * i ≤ j) → h2 101 j = h 101 j) ∧ h2 102 = upd (h 102) i 1 := by
  obtain ⟨h1, z1, z2, z3, z4⟩ := copyM N hN h (x := 0) (y := 4 + 4 * i) (by omega) (by omega) (by omega)
  refine ⟨hset (hset h1 102 i 1) 100 16 0, ?_, fun r hr => ?_, fun f hf => ?_, ?_, fun j hj => ?_, fun j hj => ?_, ?_⟩
  · unfold K_M_keep
    have ti : (nI i).toInt = (i : Int) := nI_toInt (by omega)
    rw [in1, bd_s, if_pos (show 0 ≤ (nI i).toInt ∧ (nI i).toInt ≤ 1 by omega), if_neg (by decide), show (4 : Int32) = nI 4 from rfl, nI_mul, nI_add, show (0 : Int32) = nI 0 from rfl, z1, bd_s, sA_nI (by omega) (by omega), nI_cl (by omega), nm_s, nm_s]
  · have n0 : r ≠ 100 := ne_of_nm hr (by decide)
    have n1 : r ≠ 101 := ne_of_nm hr (by decide)
    have n2 : r ≠ 102 := ne_of_nm hr (by decide)
    rw [hset_ne _ _ _ n0, hset_ne _ _ _ n2, z2 r n1]
  · rw [hset_at, upd_ne _ _ hf, hset_ne _ _ _ (by decide), z2 100 (by decide)]
  · rw [hset_at, upd_at]
  · rw [hset_ne _ _ _ (by decide), hset_ne _ _ _ (by decide), z3 j hj, Nat.zero_add]
  · rw [hset_ne _ _ _ (by decide), hset_ne _ _ _ (by decide)]
    exact z4 j (by omega)
  · rw [hset_ne _ _ _ (by decide), hset_at, z2 102 (by decide)]
theorem okB_mono {ρ : Rv} {k k' u c s : Nat} (hk : k ≤ k') (h : okB ρ k u c s) : okB ρ k' u c s := ⟨h.1, Nat.le_trans h.2.1 (Nat.mul_le_mul_left _ hk), h.2.2⟩
theorem MO_keep_ok (N : Nat) (hN : 200 < N) : MO_keep N Inv := by
  intro k b0 b1 h hk H
  have H0 := H
  obtain ⟨a, hv, hC, hM, h4, h5⟩ := H
  have hW := hv.1
  have v1 := VS_mono (Nat.le_succ k) hv
  have cB := hC.2.2.2.1
  have cL := hC.2.2.2.2.1
  obtain ⟨nx, cL1, cL2, cL3, cL4⟩ := cL
  refine ⟨?_, ?_, ?_⟩
  · obtain ⟨h1, z1, z2, ⟨z3, z4, z5⟩, ⟨z6, z7⟩, ⟨z8, z9⟩, z10⟩ := keep0C h
    have hg : ∀ r ∈ clR, r ∉ ([31, 33, 35] : List Nat) → mx lK0 h1 h r = h r := fun r hr hX => mx_rows (fun hL => by
      by_cases c : r = 30
      · subst c; exact z2
      · refine z10 r (fun q => ?_)
        have n1 : r ≠ 31 := ne_of_nm hX (by decide)
        have n3 : r ≠ 33 := ne_of_nm hX (by decide)
        have n5 : r ≠ 35 := ne_of_nm hX (by decide)
        have n2 : r ≠ 32 := ne_of_m hL (by decide)
        have n4 : r ≠ 34 := ne_of_m hL (by decide)
        simp only [List.mem_cons, List.not_mem_nil, or_false] at q
        omega)
    have hC1 : IC (k + 1) (aI0 (aL a []) (some (sB a))) (mx lK0 h1 h) := IC_up (Nat.le_succ k) hC [31, 33, 35] hg
      (c5 := .inr ⟨nx, cL1, by rw [mx_in _ _ (by decide), z9]; exact cL2, by rw [mx_in _ _ (by decide), z8]; rfl, fun j hj => absurd hj (Nat.not_lt_zero _)⟩)
      (c8 := .inr ⟨by rw [mx_in _ _ (by decide)]; exact z6, by show mx lK0 h1 h 31 0 = _; rw [mx_in _ _ (by decide), z3]; exact cB.1, by show mx lK0 h1 h 31 1 = _; rw [mx_in _ _ (by decide), z4]; exact cB.2.1, by show mx lK0 h1 h 31 2 = _; rw [mx_in _ _ (by decide), z5]; exact cB.2.2⟩)
      (c9 := .inr (cI_of (by rw [mx_in _ _ (by decide)]; exact z7) (by show mx lK0 h1 h 32 = h 32; exact mx_out _ _ (by decide)) hC.2.2.2.2.2.2.2.2.1))
    have hMm : IM a (mx lK0 h1 h) := IM_same ⟨fun r hr => mx_out _ _ (fun q => by revert hr q; revert r; decide), fun f _ => by rw [mx_out _ _ (by decide)]⟩ hM
    obtain ⟨h2, y1, y2, y3, y4, y5, y6, y7⟩ := keepM N hN hMm (i := 0) (by decide)
    have hM2 : IM (aI0 (aL a []) (some (sB a))) h2 := IM_up hMm [101, 102, 107] [16] (fun r hr hX => y2 r (fun q => by
        have n1 : r ≠ 101 := ne_of_nm hX (by decide)
        have n2 : r ≠ 102 := ne_of_nm hX (by decide)
        have n0 : r ≠ 100 := ne_of_m hr (by decide)
        simp only [List.mem_cons, List.not_mem_nil, or_false] at q
        omega)) (fun f hf hF => y3 f (ne_of_nm hF (by decide))) (c2 := by rw [y3 12 (by decide)]; exact hMm.2.1)
      (c5 := .inr (mB_of (fun j hj => y6 _ (by omega)) hMm.2.2.2.2.1))
      (c6 := .inr ⟨y4, fun j hj => absurd hj (Nat.not_lt_zero _)⟩)
      (c9 := .inr ⟨by rw [y7, upd_at], by
        have b := hMm.2.2.2.2.1
        exact ⟨(y5 0 (by decide)).trans b.1, (y5 1 (by decide)).trans b.2.1, (y5 2 (by decide)).trans b.2.2.1, (y5 3 (by decide)).trans b.2.2.2⟩⟩)
      (c10 := .inr (mI_of (by rw [y7, upd_ne _ _ (by decide)]) (fun j hj => y6 _ (by omega)) hMm.2.2.2.2.2.2.2.2.2))
    refine ⟨1, h1, h2, z1, y1, aI0 (aL a []) (some (sB a)), ?_, IC_same (Nat.le_refl _) (fun r hr => mxM_ne _ _ (fun z => ?_)) hC1, IM_M hM2, rfl, h5⟩
    · exact ⟨v1.1, v1.2.1, v1.2.2.1, ⟨Nat.zero_le _, Nat.zero_le _, fun u hu => absurd hu List.not_mem_nil⟩, v1.2.2.2.2.1, v1.2.2.2.2.2.1, v1.2.2.1, v1.2.2.2.2.2.2.2⟩
    · have := lM_ge r z
      revert hr this; revert r; unfold clR; decide
  · obtain ⟨h1, z1, z2, ⟨z3, z4, z5⟩, ⟨z6, z7⟩, ⟨z8, z9⟩, z10⟩ := keep1C h
    have hg : ∀ r ∈ clR, r ∉ ([32, 33, 35] : List Nat) → mx lK1 h1 h r = h r := fun r hr hX => mx_rows (fun hL => by
      by_cases c : r = 30
      · subst c; exact z2
      · refine z10 r (fun q => ?_)
        have n1 : r ≠ 32 := ne_of_nm hX (by decide)
        have n3 : r ≠ 33 := ne_of_nm hX (by decide)
        have n5 : r ≠ 35 := ne_of_nm hX (by decide)
        have n2 : r ≠ 31 := ne_of_m hL (by decide)
        have n4 : r ≠ 34 := ne_of_m hL (by decide)
        simp only [List.mem_cons, List.not_mem_nil, or_false] at q
        omega)
    have hC1 : IC (k + 1) (aI1 (aL a []) (some (sB a))) (mx lK1 h1 h) := IC_up (Nat.le_succ k) hC [32, 33, 35] hg
      (c5 := .inr ⟨nx, cL1, by rw [mx_in _ _ (by decide), z9]; exact cL2, by rw [mx_in _ _ (by decide), z8]; rfl, fun j hj => absurd hj (Nat.not_lt_zero _)⟩)
      (c9 := .inr ⟨by rw [mx_in _ _ (by decide)]; exact z6, by show mx lK1 h1 h 32 0 = _; rw [mx_in _ _ (by decide), z3]; exact cB.1, by show mx lK1 h1 h 32 1 = _; rw [mx_in _ _ (by decide), z4]; exact cB.2.1, by show mx lK1 h1 h 32 2 = _; rw [mx_in _ _ (by decide), z5]; exact cB.2.2⟩)
      (c8 := .inr (cI_of (by rw [mx_in _ _ (by decide)]; exact z7) (by show mx lK1 h1 h 31 = h 31; exact mx_out _ _ (by decide)) hC.2.2.2.2.2.2.2.1))
    have hMm : IM a (mx lK1 h1 h) := IM_same ⟨fun r hr => mx_out _ _ (fun q => by revert hr q; revert r; decide), fun f _ => by rw [mx_out _ _ (by decide)]⟩ hM
    obtain ⟨h2, y1, y2, y3, y4, y5, y6, y7⟩ := keepM N hN hMm (i := 1) (by decide)
    have hM2 : IM (aI1 (aL a []) (some (sB a))) h2 := IM_up hMm [101, 102, 107] [16] (fun r hr hX => y2 r (fun q => by
        have n1 : r ≠ 101 := ne_of_nm hX (by decide)
        have n2 : r ≠ 102 := ne_of_nm hX (by decide)
        have n0 : r ≠ 100 := ne_of_m hr (by decide)
        simp only [List.mem_cons, List.not_mem_nil, or_false] at q
        omega)) (fun f hf hF => y3 f (ne_of_nm hF (by decide))) (c2 := by rw [y3 12 (by decide)]; exact hMm.2.1)
      (c5 := .inr (mB_of (fun j hj => y6 _ (by omega)) hMm.2.2.2.2.1))
      (c6 := .inr ⟨y4, fun j hj => absurd hj (Nat.not_lt_zero _)⟩)
      (c10 := .inr ⟨by rw [y7, upd_at], by
        have b := hMm.2.2.2.2.1
        exact ⟨(y5 0 (by decide)).trans b.1, (y5 1 (by decide)).trans b.2.1, (y5 2 (by decide)).trans b.2.2.1, (y5 3 (by decide)).trans b.2.2.2⟩⟩)
      (c9 := .inr (mI_of (by rw [y7, upd_ne _ _ (by decide)]) (fun j hj => y6 _ (by omega)) hMm.2.2.2.2.2.2.2.2.1))
    refine ⟨1, h1, h2, z1, y1, aI1 (aL a []) (some (sB a)), ?_, IC_same (Nat.le_refl _) (fun r hr => mxM_ne _ _ (fun z => ?_)) hC1, IM_M hM2, h4, rfl⟩
    · exact ⟨v1.1, v1.2.1, v1.2.2.1, ⟨Nat.zero_le _, Nat.zero_le _, fun u hu => absurd hu List.not_mem_nil⟩, v1.2.2.2.2.1, v1.2.2.2.2.2.1, v1.2.2.2.2.2.2.1, v1.2.2.1⟩
    · have := lM_ge r z
      revert hr this; revert r; unfold clR; decide
  · intro x n0 n1
    have cx : ¬ (0 ≤ x.toInt ∧ x.toInt ≤ 1) := by
      rintro ⟨q1, q2⟩
      rcases (by omega : x.toInt = 0 ∨ x.toInt = 1) with e | e
      · exact n0 (by rw [i32_of x, e]; rfl)
      · exact n1 (by rw [i32_of x, e]; rfl)
    refine ⟨1, mx lC h h, ?_, by decide, ?_, op_no H0⟩
    · rw [outX (a := 0) (b := 2 - 1) (lo := 0) (hi := 1) (by decide) (by decide) (by decide) (by decide) (by decide) (by decide), if_neg cx]
    · unfold K_M_keep
      rw [in1, bd_s, if_neg cx, if_pos rfl]
/-- the boat as an image has it -/
def aG (a : St) (b : Nat × Nat × Nat) : St := aL (aB a b) []
theorem MO_goBack_ok (N : Nat) (hN : 200 < N) : MO_goBack N Inv := by
  intro k b0 b1 h x hk H
  have H0 := H
  obtain ⟨a, hv, hC, hM, h4, h5⟩ := H
  have hW := hv.1
  have v1 := VS_mono (Nat.le_succ k) hv
  have cI0 := hC.2.2.2.2.2.2.2.1
  have cI1 := hC.2.2.2.2.2.2.2.2.1
  have mI0 := hM.2.2.2.2.2.2.2.2.1
  have mI1 := hM.2.2.2.2.2.2.2.2.2
  have nI0 : sI0 a = none → h 33 0 = 0 := fun e => by rw [e] at cI0; exact cI0
  have nI1 : sI1 a = none → h 33 1 = 0 := fun e => by rw [e] at cI1; exact cI1
  refine ⟨fun e => ?_, fun e => ?_, ?_⟩
  · refine nI0 ?_
    rw [e] at h4
    exact Option.not_isSome_iff_eq_none.mp (by rw [h4]; decide)
  · refine nI1 ?_
    rw [e] at h5
    exact Option.not_isSome_iff_eq_none.mp (by rw [h5]; decide)
  · have hL : ∀ r, r ∈ lC ++ (WBo b0 b1).map (fun x => x.1) → r < 100 := by
      have : (lC ++ (WBo b0 b1).map (fun x => x.1)).all (fun r => decide (r < 100)) = true := by cases b0 <;> cases b1 <;> decide
      intro r hr
      exact of_decide_eq_true (List.all_eq_true.mp this r hr)
    have hL2 : ∀ r, r ∈ lC → r ∈ lC ++ (WBo b0 b1).map (fun x => x.1) := fun r hr => List.mem_append.mpr (.inl hr)
    generalize lC ++ (WBo b0 b1).map (fun x => x.1) = L at hL hL2 ⊢
    have mxs : ∀ g : Hp, (∀ r, r ∉ L → g r = h r) → mx L g h = g := fun g hg => mx_eq hg
    have hIM : ∀ g : Hp, (∀ r, 100 ≤ r → g r = h r) → IM a g := fun g hg => IM_same ⟨fun r hr => hg r (by revert hr; revert r; decide), fun f _ => by rw [hg 100 (by decide)]⟩ hM
    have fin : ∀ (a' : St) (g h2 : Hp), VS (k + 1) a' → IC (k + 1) a' g → IM a' h2 → (sI0 a').isSome = b0 → (sI1 a').isSome = b1 → Inv (k + 1) b0 b1 (mx lM h2 g) := fun a' g h2 q1 q2 q3 q4 q5 => ⟨a', q1, IC_same (Nat.le_refl _) (fun r hr => mxM_ne _ _ (fun z => by
      have := lM_ge r z
      revert hr this; revert r; unfold clR; decide)) q2, IM_M q3, q4, q5⟩
    have ho : K_C_isOutside x 0 (2 - 1) = some (if 0 ≤ x.toInt ∧ x.toInt ≤ 1 then 0 else 1) := outX (a := 0) (b := 2 - 1) (lo := 0) (hi := 1) (by decide) (by decide) (by decide) (by decide) (by decide) (by decide)
    by_cases cx : 0 ≤ x.toInt ∧ x.toInt ≤ 1
    · obtain ⟨i, hi, ei⟩ := nat_of (x := x) (n := 1) cx
      rcases (by omega : i = 0 ∨ i = 1) with e | e
      · subst e
        have ex0 : x = 0 := ei
        cases hI : sI0 a with
        | none =>
          have n0 := nI0 hI
          have m0 : h 102 0 = 0 := by rw [hI] at mI0; exact mI0
          refine ⟨-1000000003, h, h, ?_, ?_, ?_⟩
          · unfold K_C_goBack
            rw [ho, bd_s, if_pos cx, if_pos rfl, ex0, show gA 2 (h 33) 0 = gA 2 (h 33) (nI 0) from rfl, gA_nI (by omega) (by omega), n0, if_pos rfl]
          · unfold K_M_goBack
            rw [mxs h (fun _ _ => rfl), in1, bd_s, if_pos cx, if_neg (by decide), ex0, show gA 2 (h 102) 0 = gA 2 (h 102) (nI 0) from rfl, gA_nI (by omega) (by omega), m0, if_pos rfl]
          · rw [mxs h (fun _ _ => rfl)]
            exact fin a h h v1 (IC_same (Nat.le_succ k) (fun _ _ => rfl) hC) hM h4 h5
        | some b =>
          rw [hI] at cI0 mI0
          have okb : okB (sR a) k b.1 b.2.1 b.2.2 := by have := hv.2.2.2.2.2.2.1; rw [hI] at this; exact this
          obtain ⟨c1, c2, c3, c4⟩ := cI0
          have c2 : h 31 0 = nI b.1 := c2
          have c3 : h 31 1 = nI b.2.1 := c3
          have c4 : h 31 2 = nI b.2.2 := c4
          obtain ⟨d1, d2⟩ := mI0
          obtain ⟨nx, cL1, cL2, cL3, cL4⟩ := hC.2.2.2.2.1
          have kB : K_Boat_become h = some (hset (hset (hset h 30 0 (nI b.1)) 30 1 (nI b.2.1)) 30 2 (nI b.2.2)) := by
            unfold K_Boat_become
            rw [c2, nm_s, hset_ne _ _ _ (by decide), c3, nm_s, hset_ne _ _ _ (by decide), hset_ne _ _ _ (by decide), c4, nm_s]
          have o3 : ∀ r, r ∉ ([30, 31] : List Nat) → hset (hset (hset h 30 0 (nI b.1)) 30 1 (nI b.2.1)) 30 2 (nI b.2.2) r = h r := fun r hr => by
            have n : r ≠ 30 := ne_of_nm hr (by decide)
            rw [hset_ne _ _ _ n, hset_ne _ _ _ n, hset_ne _ _ _ n]
          have b0' : (hset (hset (hset h 30 0 (nI b.1)) 30 1 (nI b.2.1)) 30 2 (nI b.2.2)) 30 0 = nI b.1 := by rw [hset_at, upd_ne _ _ (by decide), hset_at, upd_ne _ _ (by decide), hset_at, upd_at]
          have b1' : (hset (hset (hset h 30 0 (nI b.1)) 30 1 (nI b.2.1)) 30 2 (nI b.2.2)) 30 1 = nI b.2.1 := by rw [hset_at, upd_ne _ _ (by decide), hset_at, upd_at]
          have b2' : (hset (hset (hset h 30 0 (nI b.1)) 30 1 (nI b.2.1)) 30 2 (nI b.2.2)) 30 2 = nI b.2.2 := by rw [hset_at, upd_at]
          have o4 : ∀ r, r ≠ 30 → hset (hset (hset h 30 0 (nI b.1)) 30 1 (nI b.2.1)) 30 2 (nI b.2.2) r = h r := fun r n => by
            rw [hset_ne _ _ _ n, hset_ne _ _ _ n, hset_ne _ _ _ n]
          generalize hset (hset (hset h 30 0 (nI b.1)) 30 1 (nI b.2.1)) 30 2 (nI b.2.2) = g at kB o3 b0' b1' b2' o4
          have og : ∀ r, r ∉ ([30, 35] : List Nat) → hset g 35 2 0 r = h r := fun r hr => by
            rw [hset_ne _ _ _ (ne_of_nm hr (by decide)), o4 r (ne_of_nm hr (by decide))]
          have kC : K_C_goBack x h = some (1, hset g 35 2 0) := by
            unfold K_C_goBack
            rw [ho, bd_s, if_pos cx, if_pos rfl, ex0, show gA 2 (h 33) 0 = gA 2 (h 33) (nI 0) from rfl, gA_nI (by omega) (by omega), c1, if_neg (by decide), if_pos rfl, kB, bd_s, nm_s, mx_eq o3]
            unfold K_Log_forget
            rw [nm_s, bd_s, nm_s, mx_eq (fun r hr => hset_ne _ _ _ (ne_of_nm hr (by decide)))]
          have hmx : mx L (hset g 35 2 0) h = hset g 35 2 0 := mxs _ (fun r hr => og r (fun q => hr (hL2 r ((by decide : ∀ r ∈ ([30, 35] : List Nat), r ∈ lC) r q))))
          have hC1 : IC (k + 1) (aG a b) (hset g 35 2 0) := IC_up (Nat.le_succ k) hC [30, 35] (fun r _ hX => og r hX)
            (c4 := .inr ⟨by rw [hset_ne _ _ _ (by decide)]; exact b0', by rw [hset_ne _ _ _ (by decide)]; exact b1', by rw [hset_ne _ _ _ (by decide)]; exact b2'⟩)
            (c5 := .inr ⟨nx, cL1, by rw [hset_at, upd_ne _ _ (by decide), o4 35 (by decide)]; exact cL2, by rw [hset_at, upd_at]; rfl, fun j hj => absurd hj (Nat.not_lt_zero _)⟩)
          have hMm : IM a (hset g 35 2 0) := hIM _ (fun r hr => og r (fun q => by simp only [List.mem_cons, List.not_mem_nil, or_false] at q; omega))
          have h101 : hset g 35 2 0 101 = h 101 := og 101 (by decide)
          have h102 : hset g 35 2 0 102 = h 102 := og 102 (by decide)
          obtain ⟨h1, y1, y2, y3, y4⟩ := copyM N hN (hset g 35 2 0) (x := 4) (y := 0) (by omega) (by omega) (by omega)
          have hM2 : IM (aG a b) (hset h1 100 16 0) := IM_up hMm [101, 107] [16] (fun r hr hX => by rw [hset_ne _ _ _ (ne_of_m hr (by decide)), y2 r (ne_of_nm hX (by decide))]) (fun f hf hF => by rw [hset_at, upd_ne _ _ (ne_of_nm hF (by decide)), y2 100 (by decide)]) (c2 := by rw [hset_at, upd_ne _ _ (by decide), y2 100 (by decide)]; exact hMm.2.1)
            (c5 := .inr (by
              have d2 : h 101 4 = nI (cM (sR a) (b.1 / 8)) ∧ h 101 5 = nI (b.1 % 8) ∧ h 101 6 = nI b.2.1 ∧ h 101 7 = nI b.2.2 := d2
              refine ⟨?_, ?_, ?_, ?_⟩
              · rw [hset_ne _ _ _ (by decide)]; exact (y3 0 (by decide)).trans ((congrFun h101 4).trans d2.1)
              · rw [hset_ne _ _ _ (by decide)]; exact (y3 1 (by decide)).trans ((congrFun h101 5).trans d2.2.1)
              · rw [hset_ne _ _ _ (by decide)]; exact (y3 2 (by decide)).trans ((congrFun h101 6).trans d2.2.2.1)
              · rw [hset_ne _ _ _ (by decide)]; exact (y3 3 (by decide)).trans ((congrFun h101 7).trans d2.2.2.2)))
            (c6 := .inr ⟨by rw [hset_at, upd_at]; rfl, fun j hj => absurd hj (Nat.not_lt_zero _)⟩)
            (c9 := .inr (mI_of (by rw [hset_ne _ _ _ (by decide), y2 102 (by decide)]) (fun j hj => by rw [hset_ne _ _ _ (by decide)]; exact y4 _ (by omega)) hMm.2.2.2.2.2.2.2.2.1))
            (c10 := .inr (mI_of (by rw [hset_ne _ _ _ (by decide), y2 102 (by decide)]) (fun j hj => by rw [hset_ne _ _ _ (by decide)]; exact y4 _ (by omega)) hMm.2.2.2.2.2.2.2.2.2))
          refine ⟨1, hset g 35 2 0, hset h1 100 16 0, kC, ?_, ?_⟩
          · unfold K_M_goBack
            rw [hmx, in1, bd_s, if_pos cx, if_neg (by decide), ex0, show gA 2 (hset g 35 2 0 102) 0 = gA 2 (hset g 35 2 0 102) (nI 0) from rfl, gA_nI (by omega) (by omega), h102, d1, if_neg (by decide)]
            show bd (K_M_copy N (nI 4) (nI 0) (hset g 35 2 0)) _ = _
            rw [y1, bd_s, nm_s]
          · rw [hmx]
            exact fin (aG a b) _ _ ⟨v1.1, v1.2.1, okB_mono (Nat.le_succ k) okb, ⟨Nat.zero_le _, Nat.zero_le _, fun u hu => absurd hu List.not_mem_nil⟩, v1.2.2.2.2⟩ hC1 hM2 h4 h5
      · subst e
        have ex1 : x = 1 := ei
        cases hI : sI1 a with
        | none =>
          have n0 := nI1 hI
          have m0 : h 102 1 = 0 := by rw [hI] at mI1; exact mI1
          refine ⟨-1000000003, h, h, ?_, ?_, ?_⟩
          · unfold K_C_goBack
            rw [ho, bd_s, if_pos cx, if_pos rfl, ex1, show gA 2 (h 33) 1 = gA 2 (h 33) (nI 1) from rfl, gA_nI (by omega) (by omega), n0, if_pos rfl]
          · unfold K_M_goBack
            rw [mxs h (fun _ _ => rfl), in1, bd_s, if_pos cx, if_neg (by decide), ex1, show gA 2 (h 102) 1 = gA 2 (h 102) (nI 1) from rfl, gA_nI (by omega) (by omega), m0, if_pos rfl]
          · rw [mxs h (fun _ _ => rfl)]
            exact fin a h h v1 (IC_same (Nat.le_succ k) (fun _ _ => rfl) hC) hM h4 h5
        | some b =>
          rw [hI] at cI1 mI1
          have okb : okB (sR a) k b.1 b.2.1 b.2.2 := by have := hv.2.2.2.2.2.2.2; rw [hI] at this; exact this
          obtain ⟨c1, c2, c3, c4⟩ := cI1
          have c2 : h 32 0 = nI b.1 := c2
          have c3 : h 32 1 = nI b.2.1 := c3
          have c4 : h 32 2 = nI b.2.2 := c4
          obtain ⟨d1, d2⟩ := mI1
          obtain ⟨nx, cL1, cL2, cL3, cL4⟩ := hC.2.2.2.2.1
          have kB : K_Boat_become2 h = some (hset (hset (hset h 30 0 (nI b.1)) 30 1 (nI b.2.1)) 30 2 (nI b.2.2)) := by
            unfold K_Boat_become2
            rw [c2, nm_s, hset_ne _ _ _ (by decide), c3, nm_s, hset_ne _ _ _ (by decide), hset_ne _ _ _ (by decide), c4, nm_s]
          have o3 : ∀ r, r ∉ ([30, 32] : List Nat) → hset (hset (hset h 30 0 (nI b.1)) 30 1 (nI b.2.1)) 30 2 (nI b.2.2) r = h r := fun r hr => by
            have n : r ≠ 30 := ne_of_nm hr (by decide)
            rw [hset_ne _ _ _ n, hset_ne _ _ _ n, hset_ne _ _ _ n]
          have b0' : (hset (hset (hset h 30 0 (nI b.1)) 30 1 (nI b.2.1)) 30 2 (nI b.2.2)) 30 0 = nI b.1 := by rw [hset_at, upd_ne _ _ (by decide), hset_at, upd_ne _ _ (by decide), hset_at, upd_at]
          have b1' : (hset (hset (hset h 30 0 (nI b.1)) 30 1 (nI b.2.1)) 30 2 (nI b.2.2)) 30 1 = nI b.2.1 := by rw [hset_at, upd_ne _ _ (by decide), hset_at, upd_at]
          have b2' : (hset (hset (hset h 30 0 (nI b.1)) 30 1 (nI b.2.1)) 30 2 (nI b.2.2)) 30 2 = nI b.2.2 := by rw [hset_at, upd_at]
          have o4 : ∀ r, r ≠ 30 → hset (hset (hset h 30 0 (nI b.1)) 30 1 (nI b.2.1)) 30 2 (nI b.2.2) r = h r := fun r n => by
            rw [hset_ne _ _ _ n, hset_ne _ _ _ n, hset_ne _ _ _ n]
          generalize hset (hset (hset h 30 0 (nI b.1)) 30 1 (nI b.2.1)) 30 2 (nI b.2.2) = g at kB o3 b0' b1' b2' o4
          have og : ∀ r, r ∉ ([30, 35] : List Nat) → hset g 35 2 0 r = h r := fun r hr => by
            rw [hset_ne _ _ _ (ne_of_nm hr (by decide)), o4 r (ne_of_nm hr (by decide))]
          have kC : K_C_goBack x h = some (1, hset g 35 2 0) := by
            unfold K_C_goBack
            rw [ho, bd_s, if_pos cx, if_pos rfl, ex1, show gA 2 (h 33) 1 = gA 2 (h 33) (nI 1) from rfl, gA_nI (by omega) (by omega), c1, if_neg (by decide), if_neg (by decide), kB, bd_s, nm_s, mx_eq o3]
            unfold K_Log_forget
            rw [nm_s, bd_s, nm_s, mx_eq (fun r hr => hset_ne _ _ _ (ne_of_nm hr (by decide)))]
          have hmx : mx L (hset g 35 2 0) h = hset g 35 2 0 := mxs _ (fun r hr => og r (fun q => hr (hL2 r ((by decide : ∀ r ∈ ([30, 35] : List Nat), r ∈ lC) r q))))
          have hC1 : IC (k + 1) (aG a b) (hset g 35 2 0) := IC_up (Nat.le_succ k) hC [30, 35] (fun r _ hX => og r hX)
            (c4 := .inr ⟨by rw [hset_ne _ _ _ (by decide)]; exact b0', by rw [hset_ne _ _ _ (by decide)]; exact b1', by rw [hset_ne _ _ _ (by decide)]; exact b2'⟩)
            (c5 := .inr ⟨nx, cL1, by rw [hset_at, upd_ne _ _ (by decide), o4 35 (by decide)]; exact cL2, by rw [hset_at, upd_at]; rfl, fun j hj => absurd hj (Nat.not_lt_zero _)⟩)
          have hMm : IM a (hset g 35 2 0) := hIM _ (fun r hr => og r (fun q => by simp only [List.mem_cons, List.not_mem_nil, or_false] at q; omega))
          have h101 : hset g 35 2 0 101 = h 101 := og 101 (by decide)
          have h102 : hset g 35 2 0 102 = h 102 := og 102 (by decide)
          obtain ⟨h1, y1, y2, y3, y4⟩ := copyM N hN (hset g 35 2 0) (x := 8) (y := 0) (by omega) (by omega) (by omega)
          have hM2 : IM (aG a b) (hset h1 100 16 0) := IM_up hMm [101, 107] [16] (fun r hr hX => by rw [hset_ne _ _ _ (ne_of_m hr (by decide)), y2 r (ne_of_nm hX (by decide))]) (fun f hf hF => by rw [hset_at, upd_ne _ _ (ne_of_nm hF (by decide)), y2 100 (by decide)]) (c2 := by rw [hset_at, upd_ne _ _ (by decide), y2 100 (by decide)]; exact hMm.2.1)
            (c5 := .inr (by
              have d2 : h 101 8 = nI (cM (sR a) (b.1 / 8)) ∧ h 101 9 = nI (b.1 % 8) ∧ h 101 10 = nI b.2.1 ∧ h 101 11 = nI b.2.2 := d2
              refine ⟨?_, ?_, ?_, ?_⟩
              · rw [hset_ne _ _ _ (by decide)]; exact (y3 0 (by decide)).trans ((congrFun h101 8).trans d2.1)
              · rw [hset_ne _ _ _ (by decide)]; exact (y3 1 (by decide)).trans ((congrFun h101 9).trans d2.2.1)
              · rw [hset_ne _ _ _ (by decide)]; exact (y3 2 (by decide)).trans ((congrFun h101 10).trans d2.2.2.1)
              · rw [hset_ne _ _ _ (by decide)]; exact (y3 3 (by decide)).trans ((congrFun h101 11).trans d2.2.2.2)))
            (c6 := .inr ⟨by rw [hset_at, upd_at]; rfl, fun j hj => absurd hj (Nat.not_lt_zero _)⟩)
            (c9 := .inr (mI_of (by rw [hset_ne _ _ _ (by decide), y2 102 (by decide)]) (fun j hj => by rw [hset_ne _ _ _ (by decide)]; exact y4 _ (by omega)) hMm.2.2.2.2.2.2.2.2.1))
            (c10 := .inr (mI_of (by rw [hset_ne _ _ _ (by decide), y2 102 (by decide)]) (fun j hj => by rw [hset_ne _ _ _ (by decide)]; exact y4 _ (by omega)) hMm.2.2.2.2.2.2.2.2.2))
          refine ⟨1, hset g 35 2 0, hset h1 100 16 0, kC, ?_, ?_⟩
          · unfold K_M_goBack
            rw [hmx, in1, bd_s, if_pos cx, if_neg (by decide), ex1, show gA 2 (hset g 35 2 0 102) 1 = gA 2 (hset g 35 2 0 102) (nI 1) from rfl, gA_nI (by omega) (by omega), h102, d1, if_neg (by decide)]
            show bd (K_M_copy N (nI 8) (nI 0) (hset g 35 2 0)) _ = _
            rw [y1, bd_s, nm_s]
          · rw [hmx]
            exact fin (aG a b) _ _ ⟨v1.1, v1.2.1, okB_mono (Nat.le_succ k) okb, ⟨Nat.zero_le _, Nat.zero_le _, fun u hu => absurd hu List.not_mem_nil⟩, v1.2.2.2.2⟩ hC1 hM2 h4 h5
    · refine ⟨-1000000001, h, h, ?_, ?_, ?_⟩
      · unfold K_C_goBack
        rw [ho, bd_s, if_neg cx, if_neg (by decide)]
      · unfold K_M_goBack
        rw [mxs h (fun _ _ => rfl), in1, bd_s, if_neg cx, if_pos rfl]
      · rw [mxs h (fun _ _ => rfl)]
        exact fin a h h v1 (IC_same (Nat.le_succ k) (fun _ _ => rfl) hC) hM h4 h5
