/-! write, seed, told -/
theorem MO_write_ok (N : Nat) : MO_write N Inv := by
  intro k b0 b1 h p x y hk H
  have H0 := H
  obtain ⟨a, hv, hC, hM, h4, h5⟩ := H
  have hW := hv.1
  have hR := hC.2.2.1.1
  have n4 := hv.2.2.2.2.2.1.1
  have ea := hC.2.2.2.2.2.2.1.1
  by_cases c : 0 ≤ x.toInt ∧ x.toInt < rW (sR a) ∧ 0 ≤ y.toInt ∧ y.toInt < rH (sR a)
  · obtain ⟨s, s1, s2, s3, s4, s5⟩ := sq_of hW c
    have l := inR_lt hW s1
    have cm := cM_b hW s1
    have b := WH_b hW
    by_cases d : 0 ≤ p.toInt ∧ p.toInt ≤ 15
    · obtain ⟨j0, hj0, ej0⟩ := nat_of (x := p) (n := 15) d
      subst ej0
      by_cases f : (sE a).length = 20
      · refine ⟨-1000000004, h, mx lC h h, ?_, ?_, op_no H0⟩
        · unfold K_C_write K_Lines_addEntry
          have k2 : (20 : Int32) ≤ nI (sE a).length ↔ 20 ≤ (sE a).length := nI_le_iff (a := 20) (by omega) (by omega)
          rw [hasX hW hR, bd_s, if_pos c, if_neg (by decide), outX (x := nI j0) (a := 0) (b := 15) (lo := 0) (hi := 15) (by decide) (by decide) (by decide) (by decide) (by decide) (by decide), bd_s, if_pos d, if_pos rfl, ea, if_neg (nI_not_neg (by omega)), if_pos (k2.mpr (by omega)), bd2_s, nm_s, if_pos rfl, mx_eq (fun _ _ => rfl)]
        · have hM' := IM_C (h1 := h) hM
          have ec := hM'.2.2.2.2.2.2.2.1.1
          unfold K_M_write
          rw [isSquareX hW hM'.1, bd_s, if_pos c, if_neg (by decide), inX (x := nI j0) (a := 0) (b := 15) (lo := 0) (hi := 15) (by decide) (by decide) (by decide) (by decide) (by decide) (by decide), bd_s, if_pos d, if_neg (by decide), ec, f, if_pos (show nI 20 = 20 from rfl)]
      · let g1 := hset h 63 (sE a).length (nI j0)
        let h1 := hset (hset g1 64 (sE a).length (nI s)) 60 5 (nI ((sE a).length + 1))
        have o1 : ∀ r, r ∉ [60, 63, 64] → h1 r = h r := fun r z => by simp only [h1, g1]; rw [hset_ne _ _ _ (ne_of_nm z (by decide)), hset_ne _ _ _ (ne_of_nm z (by decide)), hset_ne _ _ _ (ne_of_nm z (by decide))]
        have hM' : IM a (mx lC h1 h) := IM_C hM
        let hm := mx lC h1 h
        let g2 := hset hm 114 (sE a).length (nI j0)
        let h2 := hset (hset g2 115 (sE a).length (nI (cM (sR a) s))) 100 32 (nI ((sE a).length + 1))
        have ec : hm 100 32 = _ := hM'.2.2.2.2.2.2.2.1.1
        have v := VS_mono (Nat.le_succ k) hv
        refine ⟨nI ((sE a).length + 1), h1, h2, ?_, ?_, op_CM (a' := aE a (sE a ++ [(j0, s)])) ⟨v.1, v.2.1, v.2.2.1, v.2.2.2.1, v.2.2.2.2.1, ⟨by show (sE a ++ [(j0, s)]).length ≤ 20; rw [len_snoc]; omega, fun t z => ?_⟩, v.2.2.2.2.2.2⟩ ?_ (o1 _ (by decide)) (o1 _ (by decide)) ?_ h4 h5⟩
        · unfold K_C_write K_Lines_addEntry
          have k2 : (20 : Int32) ≤ nI (sE a).length ↔ 20 ≤ (sE a).length := nI_le_iff (a := 20) (by omega) (by omega)
          have k3 : nI (sE a).length < (20 : Int32) ↔ (sE a).length < 20 := nI_lt_iff (b := 20) (by omega) (by omega)
          have e0 : g1 60 5 = nI (sE a).length := by simp only [g1]; rw [hset_ne _ _ _ (by decide)]; exact ea
          have e1 : (hset g1 64 (sE a).length (nI s)) 60 5 = nI (sE a).length := by rw [hset_ne _ _ _ (by decide)]; exact e0
          have e2 : h1 60 5 = nI ((sE a).length + 1) := by simp only [h1]; rw [hset_at, upd_at]
          rw [hasX hW hR, bd_s, if_pos c, if_neg (by decide), outX (x := nI j0) (a := 0) (b := 15) (lo := 0) (hi := 15) (by decide) (by decide) (by decide) (by decide) (by decide) (by decide), bd_s, if_pos d, if_pos rfl, ea, if_neg (nI_not_neg (by omega)), if_neg (fun z => by have := k2.mp z; omega), if_pos (k3.mpr (by omega)), sA_nI (by omega) (by omega), nI_cl (by omega), nm_s]
          show bd2 (sA 20 (g1 60 5) _) _ = _
          rw [e0, sA_nI (by omega) (by omega)]
          show bd2 (nm (hset g1 64 (g1 60 5).toNatClampNeg (y * 8 + x)) _ : Option (Int32 × Hp)) _ = _
          rw [e0, nI_cl (by omega), nm_s, s2, nm_s, e1, show (1 : Int32) = nI 1 from rfl, nI_add, bd2_s, nm_s, if_neg (by decide)]
          show some ((mx _ h1 h) 60 5, mx _ h1 h) = _
          rw [mx_eq (fun r z => o1 r (nm_sub (by decide) z)), e2]
        · unfold K_M_write
          have k3 : nI (sE a).length = (20 : Int32) ↔ (sE a).length = 20 := nI_eq_iff (b := 20) (by omega) (by omega)
          have e0 : g2 100 32 = nI (sE a).length := by simp only [g2]; rw [hset_ne _ _ _ (by decide)]; exact ec
          have e1 : (hset g2 115 (sE a).length (nI (cM (sR a) s))) 100 32 = nI (sE a).length := by rw [hset_ne _ _ _ (by decide)]; exact e0
          have e2 : h2 100 32 = nI ((sE a).length + 1) := by simp only [h2]; rw [hset_at, upd_at]
          have e3 : g2 104 0 = nI (rW (sR a)) := by simp only [g2]; rw [hset_ne _ _ _ (by decide)]; exact hM'.1.1
          show bd (K_M_isSquare x y hm) _ = _
          rw [isSquareX hW hM'.1, bd_s, if_pos c, if_neg (by decide), inX (x := nI j0) (a := 0) (b := 15) (lo := 0) (hi := 15) (by decide) (by decide) (by decide) (by decide) (by decide) (by decide), bd_s, if_pos d, if_neg (by decide)]
          show (if hm 100 32 = 20 then _ else sA 20 (hm 100 32) (nm (hset hm 114 (hm 100 32).toNatClampNeg (nI j0)) _) : Option (Int32 × Hp)) = _
          rw [ec, if_neg (fun z => f (k3.mp z)), sA_nI (by omega) (by omega), nI_cl (by omega), nm_s]
          show gA 24 (g2 104) 0 (fun v63 => sA 20 (g2 100 32) (nm (hset g2 115 (g2 100 32).toNatClampNeg (y * v63 + x)) _)) = _
          rw [gA_lit (x := 0) (i := 0) rfl (by omega) (by omega), e3, s3, e0, sA_nI (by omega) (by omega), nI_cl (by omega), nm_s, nm_s, e1, show (1 : Int32) = nI 1 from rfl, nI_add]
          show some (h2 100 32, h2) = _
          rw [e2]
        · rcases List.mem_append.mp z with q | q
          · exact v.2.2.2.2.2.1.2 t q
          · rw [List.mem_singleton.mp q]; exact ⟨by omega, s1⟩
        · refine IC_up (Nat.le_succ k) hC [60, 63, 64] (fun r _ z => o1 r z) (c6 := .inr (cN_of ?_ (o1 _ (by decide)) hC.2.2.2.2.2.1)) (c7 := .inr ⟨?_, fun j hj => ?_⟩)
          · simp only [h1, g1]; rw [hset_at, upd_ne _ _ (by decide), hset_ne _ _ _ (by decide), hset_ne _ _ _ (by decide)]
          · simp only [h1]; rw [hset_at, upd_at]; show _ = nI (sE a ++ [(j0, s)]).length; rw [len_snoc]
          · have hj' : j < (sE a).length + 1 := by rw [← len_snoc (sE a) (j0, s)]; exact hj
            show _ = nI ((sE a ++ [(j0, s)]).getD j (0, 0)).1 ∧ _ = nI ((sE a ++ [(j0, s)]).getD j (0, 0)).2
            simp only [h1, g1]
            rw [getD_snoc _ _ _ _ hj', hset_ne _ _ _ (by decide), hset_ne _ _ _ (by decide), hset_at, hset_ne _ _ _ (by decide), hset_at, hset_ne _ _ _ (by decide)]
            by_cases q : j = (sE a).length
            · rw [if_pos q, q, upd_at, upd_at]; exact ⟨rfl, rfl⟩
            · rw [if_neg q, upd_ne _ _ q, upd_ne _ _ q]
              exact hC.2.2.2.2.2.2.1.2 j (by omega)
        · refine IM_up hM' [114, 115] [32] (fun r hr z => ?_) (fun f hf z => ?_) (c2 := ?_) (c8 := .inr ⟨?_, fun j hj => ?_⟩)
          · simp only [h2, g2]; rw [hset_ne _ _ _ (ne_of_m hr (by decide)), hset_ne _ _ _ (ne_of_nm z (by decide)), hset_ne _ _ _ (ne_of_nm z (by decide))]
          · simp only [h2, g2]; rw [hset_at, upd_ne _ _ (ne_of_nm z (by decide)), hset_ne _ _ _ (by decide), hset_ne _ _ _ (by decide)]
          · simp only [h2, g2]; rw [hset_at, upd_ne _ _ (by decide), hset_ne _ _ _ (by decide), hset_ne _ _ _ (by decide)]; exact hM'.2.1
          · simp only [h2]; rw [hset_at, upd_at]; show _ = nI (sE a ++ [(j0, s)]).length; rw [len_snoc]
          · have hj' : j < (sE a).length + 1 := by rw [← len_snoc (sE a) (j0, s)]; exact hj
            show _ = nI ((sE a ++ [(j0, s)]).getD j (0, 0)).1 ∧ _ = nI (cM (sR a) ((sE a ++ [(j0, s)]).getD j (0, 0)).2)
            simp only [h2, g2]
            rw [getD_snoc _ _ _ _ hj', hset_ne _ _ _ (by decide), hset_ne _ _ _ (by decide), hset_at, hset_ne _ _ _ (by decide), hset_at, hset_ne _ _ _ (by decide)]
            by_cases q : j = (sE a).length
            · rw [if_pos q, q, upd_at, upd_at]; exact ⟨rfl, rfl⟩
            · rw [if_neg q, upd_ne _ _ q, upd_ne _ _ q]
              exact hM'.2.2.2.2.2.2.2.1.2 j (by omega)
    · refine ⟨-1000000002, h, mx lC h h, ?_, ?_, op_no H0⟩
      · unfold K_C_write
        rw [hasX hW hR, bd_s, if_pos c, if_neg (by decide), outX (x := p) (a := 0) (b := 15) (lo := 0) (hi := 15) (by decide) (by decide) (by decide) (by decide) (by decide) (by decide), bd_s, if_neg d, if_neg (by decide)]
      · unfold K_M_write
        rw [isSquareX hW (IM_C (h1 := h) hM).1, bd_s, if_pos c, if_neg (by decide), inX (x := p) (a := 0) (b := 15) (lo := 0) (hi := 15) (by decide) (by decide) (by decide) (by decide) (by decide) (by decide), bd_s, if_neg d, if_pos rfl]
  · refine ⟨-1000000001, h, mx lC h h, ?_, ?_, op_no H0⟩
    · unfold K_C_write
      rw [hasX hW hR, bd_s, if_neg c, if_pos rfl]
    · unfold K_M_write
      rw [isSquareX hW (IM_C (h1 := h) hM).1, bd_s, if_neg c, if_pos rfl]
theorem MO_seed_ok (N : Nat) : MO_seed N Inv := by
  intro k b0 b1 h x hk H
  have H0 := H
  obtain ⟨a, hv, hC, hM, h4, h5⟩ := H
  have xb := i32_b x
  have k0 : (0 : Int32) ≤ x ↔ 0 ≤ x.toInt := Int32.le_iff_toInt_le
  by_cases c : 0 ≤ x.toInt
  · have c' : 0 ≤ x.toInt ∧ x.toInt ≤ 2147483647 := by omega
    obtain ⟨j, hj, ej⟩ := nat_of (x := x) (n := 2147483647) c'
    subst ej
    let h1 := hset h 30 2 (nI j)
    let hm := mx lC h1 h
    let h2 := hset hm 101 3 (nI j)
    have hM' : IM a hm := IM_C hM
    have v := VS_mono (Nat.le_succ k) hv
    have ea := hC.2.2.2.1.2.2
    have eb := hM'.2.2.2.2.1.2.2.2
    refine ⟨nI (sB a).2.2, h1, h2, ?_, ?_, op_CM (a' := aB a ((sB a).1, (sB a).2.1, j)) ⟨v.1, v.2.1, ⟨v.2.2.1.1, v.2.2.1.2.1, by show j < 2147483648; omega⟩, v.2.2.2⟩ ?_ (hset_ne _ _ _ (by decide)) (hset_ne _ _ _ (by decide)) ?_ h4 h5⟩
    · unfold K_C_seed
      rw [outX (x := nI j) (a := 0) (b := 2147483647) (lo := 0) (hi := 2147483647) (by decide) (by decide) (by decide) (by decide) (by decide) (by decide), bd_s, if_pos c', if_pos rfl, nm_s, nm_s, ea]
    · unfold K_M_seed
      rw [if_pos (k0.mpr c), gA_lit (x := 3) (i := 3) rfl (by omega) (by omega)]
      show sA 12 3 (nm (hset hm 101 (Int32.toNatClampNeg 3) (nI j)) (fun h20 => some (hm 101 3, h20))) = _
      rw [show (3 : Int32) = nI 3 from rfl, sA_nI (by omega) (by omega), nI_cl (by omega), nm_s]
      show some (hm 101 3, h2) = _
      rw [show hm 101 3 = _ from eb]
    · refine IC_up (Nat.le_succ k) hC [30] (fun r _ z => hset_ne _ _ _ (ne_of_nm z (by decide))) (c4 := .inr ⟨?_, ?_, ?_⟩)
      · simp only [h1]; rw [hset_at, upd_ne _ _ (by decide)]; exact hC.2.2.2.1.1
      · simp only [h1]; rw [hset_at, upd_ne _ _ (by decide)]; exact hC.2.2.2.1.2.1
      · simp only [h1]; rw [hset_at, upd_at]; rfl
    · refine IM_up hM' [101] [] (fun r _ z => hset_ne _ _ _ (ne_of_nm z (by decide))) (fun f hf z => ?_) (c2 := ?_) (c5 := .inr ⟨?_, ?_, ?_, ?_⟩) (c9 := .inr (mI_of ?_ (fun j hj => ?_) hM'.2.2.2.2.2.2.2.2.1)) (c10 := .inr (mI_of ?_ (fun j hj => ?_) hM'.2.2.2.2.2.2.2.2.2))
      · simp only [h2]; rw [hset_ne _ _ _ (by decide)]
      · simp only [h2]; rw [hset_ne _ _ _ (by decide)]; exact hM'.2.1
      · simp only [h2]; rw [hset_at, upd_ne _ _ (by decide)]; exact hM'.2.2.2.2.1.1
      · simp only [h2]; rw [hset_at, upd_ne _ _ (by decide)]; exact hM'.2.2.2.2.1.2.1
      · simp only [h2]; rw [hset_at, upd_ne _ _ (by decide)]; exact hM'.2.2.2.2.1.2.2.1
      · simp only [h2]; rw [hset_at, upd_at]; rfl
      · simp only [h2]; rw [hset_ne _ _ _ (by decide)]
      · simp only [h2]; rw [hset_at, upd_ne _ _ (by omega)]
      · simp only [h2]; rw [hset_ne _ _ _ (by decide)]
      · simp only [h2]; rw [hset_at, upd_ne _ _ (by omega)]
  · refine ⟨-1000000002, h, mx lC h h, ?_, ?_, op_no H0⟩
    · unfold K_C_seed
      rw [outX (x := x) (a := 0) (b := 2147483647) (lo := 0) (hi := 2147483647) (by decide) (by decide) (by decide) (by decide) (by decide) (by decide), bd_s, if_neg (show ¬ (0 ≤ x.toInt ∧ x.toInt ≤ 2147483647) from fun z => c z.1), if_neg (by decide)]
    · unfold K_M_seed
      rw [if_neg (fun z => c (k0.mp z))]
