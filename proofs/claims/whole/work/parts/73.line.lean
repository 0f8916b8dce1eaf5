/-! tear, line, write, seed, told -/
theorem mx_eq {L : List Nat} {h1 h : Hp} (e : ∀ r, r ∉ L → h1 r = h r) : mx L h1 h = h1 := by
  funext r
  unfold mx
  by_cases c : r ∈ L
  · rw [if_pos c]
  · rw [if_neg c, e r c]
theorem nm_sub {X L : List Nat} (s : ∀ q ∈ X, q ∈ L) {r : Nat} (z : r ∉ L) : r ∉ X := fun e => z (s r e)
theorem len_snoc {α : Type} (l : List α) (c : α) : (l ++ [c]).length = l.length + 1 := by rw [List.length_append]; rfl
theorem MO_tear_ok (N : Nat) : MO_tear N Inv := by
  intro k b0 b1 h hk H
  obtain ⟨a, hv, hC, hM, h4, h5⟩ := H
  have n4 := hv.2.2.2.2.1.1
  have n5 := hv.2.2.2.2.2.1.1
  have ea := hC.2.2.2.2.2.1.1
  have eb := hC.2.2.2.2.2.2.1.1
  let h1 := hset (hset h 60 4 0) 60 5 0
  have o1 : ∀ r, r ≠ 60 → h1 r = h r := fun r z => by simp only [h1]; rw [hset_ne _ _ _ z, hset_ne _ _ _ z]
  have hM' : IM a (mx lC h1 h) := IM_C hM
  let hm := mx lC h1 h
  let h2 := hset (hset hm 100 26 0) 100 32 0
  have ec : hm 100 26 = _ := hM'.2.2.2.2.2.2.1.1
  have ed : hm 100 32 = _ := hM'.2.2.2.2.2.2.2.1.1
  have v := VS_mono (Nat.le_succ k) hv
  refine ⟨nI ((sN a).length + (sE a).length), h1, h2, ?_, ?_, op_CM (a' := aE (aN a []) []) ⟨v.1, v.2.1, v.2.2.1, v.2.2.2.1, ⟨by show 0 ≤ 4; omega, fun s z => absurd (show s ∈ ([] : List Nat) from z) List.not_mem_nil⟩, ⟨by show 0 ≤ 20; omega, fun s z => absurd (show s ∈ ([] : List (Nat × Nat)) from z) List.not_mem_nil⟩, v.2.2.2.2.2.2⟩ ?_ (o1 _ (by decide)) (o1 _ (by decide)) ?_ h4 h5⟩
  · unfold K_C_tear K_Lines_empty
    rw [nm_s, nm_s, nm_s, bd_s, nm_s, ea, eb, nI_add]
    exact congrArg (fun q => some (nI ((sN a).length + (sE a).length), q)) (mx_eq (fun r z => o1 r (fun e => z (by rw [e]; decide))))
  · unfold K_M_tear
    show (nm (hm 100 26 + hm 100 32) _ : Option (Int32 × Hp)) = _
    rw [ec, ed, nI_add, nm_s, nm_s, nm_s]
  · refine IC_up (Nat.le_succ k) hC [60] (fun r _ z => o1 r (fun e => z (by rw [e]; decide))) (c6 := .inr ⟨?_, fun j hj => absurd (show j < 0 from hj) (Nat.not_lt_zero j)⟩) (c7 := .inr ⟨?_, fun j hj => absurd (show j < 0 from hj) (Nat.not_lt_zero j)⟩)
    · simp only [h1]; rw [hset_at, upd_ne _ _ (by decide), hset_at, upd_at]; rfl
    · simp only [h1]; rw [hset_at, upd_at]; rfl
  · refine IM_up hM' [] [26, 32] (fun r hr z => ?_) (fun f hf z => ?_) (c2 := ?_) (c7 := .inr ⟨?_, fun j hj => absurd (show j < 0 from hj) (Nat.not_lt_zero j)⟩) (c8 := .inr ⟨?_, fun j hj => absurd (show j < 0 from hj) (Nat.not_lt_zero j)⟩)
    · simp only [h2]; rw [hset_ne _ _ _ (ne_of_m hr (by decide)), hset_ne _ _ _ (ne_of_m hr (by decide))]
    · simp only [h2]; rw [hset_at, upd_ne _ _ (ne_of_nm z (by decide)), hset_at, upd_ne _ _ (ne_of_nm z (by decide))]
    · simp only [h2]; rw [hset_at, upd_ne _ _ (by decide), hset_at, upd_ne _ _ (by decide)]; exact hM'.2.1
    · simp only [h2]; rw [hset_at, upd_ne _ _ (by decide), hset_at, upd_at]; rfl
    · simp only [h2]; rw [hset_at, upd_at]; rfl
theorem MO_line_ok (N : Nat) : MO_line N Inv := by
  intro k b0 b1 h x y hk H
  have H0 := H
  obtain ⟨a, hv, hC, hM, h4, h5⟩ := H
  have hW := hv.1
  have hR := hC.2.2.1.1
  have n4 := hv.2.2.2.2.1.1
  have ea := hC.2.2.2.2.2.1.1
  by_cases c : 0 ≤ x.toInt ∧ x.toInt < rW (sR a) ∧ 0 ≤ y.toInt ∧ y.toInt < rH (sR a)
  · obtain ⟨s, s1, s2, s3, s4, s5⟩ := sq_of hW c
    have l := inR_lt hW s1
    have cm := cM_b hW s1
    have b := WH_b hW
    by_cases f : (sN a).length = 4
    · refine ⟨-1000000004, h, mx lC h h, ?_, ?_, op_no H0⟩
      · unfold K_C_line K_Lines_addMark
        have k2 : nI (sN a).length < (4 : Int32) ↔ (sN a).length < 4 := nI_lt_iff (b := 4) (by omega) (by omega)
        rw [hasX hW hR, bd_s, if_pos c, if_neg (by decide), ea, if_neg (nI_not_neg (by omega)), if_neg (fun z => by have := k2.mp z; omega), bd2_s, nm_s, if_pos rfl, mx_eq (fun _ _ => rfl)]
      · have hM' := IM_C (h1 := h) hM
        have ec := hM'.2.2.2.2.2.2.1.1
        unfold K_M_line
        rw [isSquareX hW hM'.1, bd_s, if_pos c, if_neg (by decide), ec, f, if_pos (show nI 4 = 4 from rfl)]
    · let h1 := hset (hset h 61 (sN a).length (nI s)) 60 4 (nI ((sN a).length + 1))
      have o1 : ∀ r, r ∉ [60, 61] → h1 r = h r := fun r z => by simp only [h1]; rw [hset_ne _ _ _ (ne_of_nm z (by decide)), hset_ne _ _ _ (ne_of_nm z (by decide))]
      have hM' : IM a (mx lC h1 h) := IM_C hM
      let hm := mx lC h1 h
      let h2 := hset (hset hm 112 (sN a).length (nI (cM (sR a) s))) 100 26 (nI ((sN a).length + 1))
      have ec : hm 100 26 = _ := hM'.2.2.2.2.2.2.1.1
      have v := VS_mono (Nat.le_succ k) hv
      refine ⟨nI ((sN a).length + 1), h1, h2, ?_, ?_, op_CM (a' := aN a (sN a ++ [s])) ⟨v.1, v.2.1, v.2.2.1, v.2.2.2.1, ⟨by show (sN a ++ [s]).length ≤ 4; rw [len_snoc]; omega, fun t z => ?_⟩, v.2.2.2.2.2⟩ ?_ (o1 _ (by decide)) (o1 _ (by decide)) ?_ h4 h5⟩
      · unfold K_C_line K_Lines_addMark
        have k2 : nI (sN a).length < (4 : Int32) ↔ (sN a).length < 4 := nI_lt_iff (b := 4) (by omega) (by omega)
        have e2 : h1 60 4 = nI ((sN a).length + 1) := by simp only [h1]; rw [hset_at, upd_at]
        have e0 : (hset h 61 (sN a).length (nI s)) 60 4 = nI (sN a).length := by rw [hset_ne _ _ _ (by decide)]; exact ea
        rw [hasX hW hR, bd_s, if_pos c, if_neg (by decide), ea, if_neg (nI_not_neg (by omega)), if_pos (k2.mpr (by omega)), sA_nI (by omega) (by omega), nI_cl (by omega), nm_s, nm_s, s2, e0, show (1 : Int32) = nI 1 from rfl, nI_add, bd2_s, nm_s, if_neg (by decide), mx_eq (fun r z => o1 r (nm_sub (by decide) z)), e2]
      · unfold K_M_line
        have e0 : (hset hm 112 (sN a).length (nI (cM (sR a) s))) 100 26 = nI (sN a).length := by rw [hset_ne _ _ _ (by decide)]; exact ec
        have k3 : nI (sN a).length = (4 : Int32) ↔ (sN a).length = 4 := nI_eq_iff (b := 4) (by omega) (by omega)
        show bd (K_M_isSquare x y hm) _ = _
        rw [isSquareX hW hM'.1, bd_s, if_pos c, if_neg (by decide)]
        show (if hm 100 26 = 4 then _ else _ : Option (Int32 × Hp)) = _
        rw [ec, if_neg (fun z => f (k3.mp z)), gA_lit (x := 0) (i := 0) rfl (by omega) (by omega), hM'.1.1, s3]
        show sA 4 (hm 100 26) _ = _
        rw [ec, sA_nI (by omega) (by omega)]
        show (nm (hset hm 112 (hm 100 26).toNatClampNeg _) _ : Option (Int32 × Hp)) = _
        rw [ec, nI_cl (by omega), nm_s, nm_s, e0, show (1 : Int32) = nI 1 from rfl, nI_add, hset_at, upd_at]
      · rcases List.mem_append.mp z with q | q
        · exact v.2.2.2.2.1.2 t q
        · rw [List.mem_singleton.mp q]; exact s1
      · refine IC_up (Nat.le_succ k) hC [60, 61] (fun r _ z => o1 r z) (c6 := .inr ⟨?_, fun j hj => ?_⟩) (c7 := .inr (cE_of ?_ (o1 _ (by decide)) (o1 _ (by decide)) hC.2.2.2.2.2.2.1))
        · simp only [h1]; rw [hset_at, upd_at]; show _ = nI (sN a ++ [s]).length; rw [len_snoc]
        · have hj' : j < (sN a).length + 1 := by rw [← len_snoc (sN a) s]; exact hj
          show _ = nI ((sN a ++ [s]).getD j 0)
          simp only [h1]
          rw [getD_snoc _ _ _ _ hj', hset_ne _ _ _ (by decide), hset_at]
          by_cases q : j = (sN a).length
          · rw [if_pos q, q, upd_at]
          · rw [if_neg q, upd_ne _ _ q]
            exact hC.2.2.2.2.2.1.2 j (by omega)
        · simp only [h1]; rw [hset_at, upd_ne _ _ (by decide), hset_ne _ _ _ (by decide)]
      · refine IM_up hM' [112] [26] (fun r hr z => ?_) (fun f hf z => ?_) (c2 := ?_) (c7 := .inr ⟨?_, fun j hj => ?_⟩)
        · simp only [h2]; rw [hset_ne _ _ _ (ne_of_m hr (by decide)), hset_ne _ _ _ (ne_of_nm z (by decide))]
        · simp only [h2]; rw [hset_at, upd_ne _ _ (ne_of_nm z (by decide)), hset_ne _ _ _ (by decide)]
        · simp only [h2]; rw [hset_at, upd_ne _ _ (by decide), hset_ne _ _ _ (by decide)]; exact hM'.2.1
        · simp only [h2]; rw [hset_at, upd_at]; show _ = nI (sN a ++ [s]).length; rw [len_snoc]
        · have hj' : j < (sN a).length + 1 := by rw [← len_snoc (sN a) s]; exact hj
          show _ = nI (cM (sR a) ((sN a ++ [s]).getD j 0))
          simp only [h2]
          rw [getD_snoc _ _ _ _ hj', hset_ne _ _ _ (by decide), hset_at]
          by_cases q : j = (sN a).length
          · rw [if_pos q, q, upd_at]
          · rw [if_neg q, upd_ne _ _ q]
            exact hM'.2.2.2.2.2.2.1.2 j (by omega)
  · refine ⟨-1000000001, h, mx lC h h, ?_, ?_, op_no H0⟩
    · unfold K_C_line
      rw [hasX hW hR, bd_s, if_neg c, if_pos rfl]
    · unfold K_M_line
      rw [isSquareX hW (IM_C (h1 := h) hM).1, bd_s, if_neg c, if_pos rfl]
