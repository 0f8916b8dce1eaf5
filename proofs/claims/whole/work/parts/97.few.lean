/-! fewest, alone, third -/
theorem sres_val {ρ : Rv} {kind m : Nat} {h : Hp} (H : SRes ρ kind m h) : (fD ρ kind m ≤ 60 ∧ h 40 5 = nI (fD ρ kind m) ∧ ∀ i, i < fD ρ kind m → h 43 i = nI ((pth ρ kind (fD ρ kind m) m).getD i 0)) ∨ (fD ρ kind m = 61 ∧ h 40 5 = -1) := by
  rcases H with ⟨n, h1, h2, h3, h4⟩ | ⟨h1, h2⟩
  · have e : fD ρ kind m = n := fs_eq (fun j => rch ρ kind j m) (by omega) h2.1 h2.2
    left
    rw [e]
    exact ⟨h1, h3, h4⟩
  · exact .inr ⟨fs_no (fun j => rch ρ kind j m) (fun j hj => h1 j (by omega)), h2⟩
theorem FB_sameM {fb : Nat} {h g : Hp} (h0 : h 100 12 = 0) (e : FB 0 fb h g) : sameM h g := ⟨e.1, fun f hf => by
  by_cases c : f = 12
  · subst c; rw [h0]; exact e.2.2.1
  · refine e.2.1 f ?_
    simp only [List.mem_cons, List.not_mem_nil, or_false] at hf ⊢
    omega⟩
theorem farByM {ρ : Rv} {h : Hp} (hW : WF ρ) (w : rW ρ ≠ 0) (N : Nat) (hN : 4000 < N) (hR : RM ρ h) {kind : Nat} (hk : kind ≤ 10) : ∃ g, K_M_findFarBy N (nI (knd kind)) (nI (fbK kind)) h = some g ∧ FB (knd kind) (fbK kind) h g ∧ fT ρ kind 61 0 g := by
  have F0 : FB (knd kind) (fbK kind) h (hset (hset (hset h 100 12 (nI (knd kind))) 100 18 3) 100 19 (nI (fbK kind))) := by
    refine ⟨fun r hr => ?_, fun f hf => ?_, ?_, ?_, ?_⟩
    · have n : r ≠ 100 := ne_of_m hr (by decide)
      rw [hset_ne _ _ _ n, hset_ne _ _ _ n, hset_ne _ _ _ n]
    · rw [hset_at, upd_ne _ _ (ne_of_m hf (by decide)), hset_at, upd_ne _ _ (ne_of_m hf (by decide)), hset_at, upd_ne _ _ (ne_of_m hf (by decide))]
    · rw [hset_at, upd_ne _ _ (by decide), hset_at, upd_ne _ _ (by decide), hset_at, upd_at]
    · rw [hset_at, upd_ne _ _ (by decide), hset_at, upd_at]
    · rw [hset_at, upd_at]
  obtain ⟨g, z1, z2, z3⟩ := findFarM hW w N hN hR hk F0
  refine ⟨g, ?_, z2, z3⟩
  unfold K_M_findFarBy
  rw [nm_s, nm_s, nm_s, z1, bd_s]
/-- the class's look of a kind of the two's own crew -/
theorem lookC {k : Nat} {a : St} {h : Hp} (hk : k ≤ 64) (hv : VS k a) (hC : IC k a h) (N : Nat) (hN : 5000 < N) (w : rW (sR a) ≠ 0) {kind : Nat} (h0 : knd kind = 0) (hk10 : kind ≤ 10) : ∃ h1, K_Search_look N (nI (mo (sR a) (sB a))) (nI kind) h = some h1 ∧ (∀ r, r ∉ ([40, 41, 42, 43] : List Nat) → h1 r = h r) ∧ IC (k + 1) a h1 ∧ SRes (sR a) kind (mo (sR a) (sB a)) h1 := by
  have ho := mo_ok hv.1 hv.2.2.1.1 w
  obtain ⟨h1, z1, z2, z3, z4⟩ := searchK hv.1 N hN ho hk10 hC.2.2.1.1 hC.2.2.1.2.1 (by rw [h0]; exact hC.2.2.1.2.2) hC.2.2.2.2.2.2.2.2.2.1
  refine ⟨h1, z1, z2, ?_, z4⟩
  exact IC_up (Nat.le_succ k) hC [40, 43] (fun r hr hX => z2 r (fun q => by
      have n1 : r ≠ 40 := ne_of_nm hX (by decide)
      have n2 : r ≠ 43 := ne_of_nm hX (by decide)
      have n3 : r ≠ 41 := ne_of_m hr (by decide)
      have n4 : r ≠ 42 := ne_of_m hr (by decide)
      simp only [List.mem_cons, List.not_mem_nil, or_false] at q
      omega)) (c10 := .inr (.inr ⟨mo (sR a) (sB a), kind, ho, hk10, z3, z4⟩))
theorem mxS {h1 h : Hp} (z : ∀ r, r ∉ ([40, 41, 42, 43] : List Nat) → h1 r = h r) : mx [40, 41, 42, 43, 10, 11, 12, 20, 21, 22, 15, 16, 17] h1 h = h1 := mx_eq (fun r hr => z r (fun q => hr ((by decide : ∀ r ∈ ([40, 41, 42, 43] : List Nat), r ∈ [40, 41, 42, 43, 10, 11, 12, 20, 21, 22, 15, 16, 17]) r q)))
theorem MO_alone_ok (N : Nat) (hN : 5000 < N) : MO_alone N Inv := by
  intro k b0 b1 h hk H
  have H0 := H
  obtain ⟨a, hv, hC, hM, h4, h5⟩ := H
  have hW := hv.1
  have hM0 := IM_C (h1 := h) hM
  by_cases w : rW (sR a) = 0
  · refine ⟨-1000000003, h, mx lC h h, ?_, ?_, op_no H0⟩
    · unfold K_C_alone
      rw [noSquaresK hW hC.2.2.1.1, bd_s, if_pos w, if_neg (by decide)]
    · unfold K_M_alone
      rw [isNoneM hW hM0.1, bd_s, if_pos w, if_neg (by decide)]
  · obtain ⟨h1, z1, z2, z3, z4⟩ := lookC (by omega) hv hC N hN w (kind := 10) rfl (by omega)
    have hMm := IM_C (h1 := h1) hM
    obtain ⟨g, y1, y2, y3⟩ := farByM hW w N (by omega) hMm.1 (kind := 10) (by omega)
    have sg := FB_sameM hMm.2.1 y2
    have hm0 := mo_ok hW hv.2.2.1.1 w
    have em := (eM_q hW hm0).2
    have val := y3 _ hm0
    have fin : Inv (k + 1) b0 b1 (mx lM g (mx lC h1 h)) := op_CM (VS_mono (Nat.le_succ k) hv) z3 (z2 31 (by decide)) (z2 32 (by decide)) (IM_same sg hMm) h4 h5
    have kC : K_C_alone N h = some (h1 40 5, h1) := by
      unfold K_C_alone
      rw [noSquaresK hW hC.2.2.1.1, bd_s, if_neg w, if_pos rfl, momentK (by omega) hv hC, bd_s, show K_Search_look N (nI (mo (sR a) (sB a))) 10 h = some h1 from z1, bd_s, nm_s, mxS z2]
    have kM : K_M_alone N (mx lC h1 h) = some (h1 40 5, g) := by
      unfold K_M_alone
      rw [isNoneM hW hMm.1, bd_s, if_neg w, if_pos rfl, show K_M_findFarBy N 0 3 (mx lC h1 h) = some g from y1, bd_s, stateNowM (by omega) hv (IM_same sg hMm) w, bd_s, gA_nI (by omega) (by omega), val]
      rcases sres_val z4 with ⟨q1, q2, -⟩ | ⟨q1, q2⟩
      · rw [if_pos (show fD (sR a) 10 (mo (sR a) (sB a)) < 61 ∨ fD (sR a) 10 (mo (sR a) (sB a)) = 61 ∧ eM (sR a) (mo (sR a) (sB a)) < 0 by omega), if_neg (fun q => by have := (nI_eq_iff (b := 99999999) (by omega) (by omega)).mp q; omega), q2]
      · rw [if_neg (show ¬ (fD (sR a) 10 (mo (sR a) (sB a)) < 61 ∨ fD (sR a) 10 (mo (sR a) (sB a)) = 61 ∧ eM (sR a) (mo (sR a) (sB a)) < 0) by omega), if_pos (show nI 99999999 = 99999999 from rfl), q2]
    exact ⟨_, h1, g, kC, kM, fin⟩
theorem sw_fix {r : Nat} (h : r ∉ ([20, 21, 22, 25, 26, 27] : List Nat)) : sw r = r := by
  unfold sw
  rw [if_neg (ne_of_nm h (by decide)), if_neg (ne_of_nm h (by decide)), if_neg (ne_of_nm h (by decide)), if_neg (ne_of_nm h (by decide)), if_neg (ne_of_nm h (by decide)), if_neg (ne_of_nm h (by decide))]
theorem MO_third_ok (N : Nat) (hN : 5000 < N) : MO_third N Inv := by
  intro k b0 b1 h x hk H
  have H0 := H
  obtain ⟨a, hv, hC, hM, h4, h5⟩ := H
  have hW := hv.1
  have hM0 := IM_C (h1 := h) hM
  have ox : K_C_isOutside x 1 9 = some (if 1 ≤ x.toInt ∧ x.toInt ≤ 9 then 0 else 1) := outX (by decide) (by decide) (by decide) (by decide) (by decide) (by decide)
  have ix : K_M_in (Int32.toInt64 x) 1 9 = some (if 1 ≤ x.toInt ∧ x.toInt ≤ 9 then 1 else 0) := inX (by decide) (by decide) (by decide) (by decide) (by decide) (by decide)
  by_cases cx : 1 ≤ x.toInt ∧ x.toInt ≤ 9
  · by_cases w : rW (sR a) = 0
    · refine ⟨-1000000003, h, mx lC h h, ?_, ?_, op_no H0⟩
      · unfold K_C_third
        rw [ox, bd_s, if_pos cx, if_pos rfl, noSquaresK hW hC.2.2.1.1, bd_s, if_pos w, if_neg (by decide)]
      · unfold K_M_third
        rw [ix, bd_s, if_pos cx, if_neg (by decide), isNoneM hW hM0.1, bd_s, if_pos w, if_neg (by decide)]
    · obtain ⟨c, hc9, ec⟩ := nat_of (n := 9) (x := x) ⟨by omega, cx.2⟩
      have ek : knd c = c := by unfold knd; rw [if_neg (by omega)]
      have efb : fbK c = 0 := by unfold fbK; rw [if_neg (by omega)]
      have hm0 := mo_ok hW hv.2.2.1.1 w
      have s3 : ∀ r, r ∉ ([20, 21, 22, 25, 26, 27] : List Nat) → sw3 h r = h r := fun r hr => by show h (sw r) = h r; rw [sw_fix hr]
      have rc0 : RC (sR a) (sw3 h) := RC_of (s3 _ (by decide)) (s3 _ (by decide)) (s3 _ (by decide)) hC.2.2.1.1
      obtain ⟨h32, t1, t2, t3⟩ := takeK hW rc0 N (by omega) (kn := c) hc9
      have e32 : mx [20, 21, 22, 15, 16, 17, 10, 11, 12] h32 (sw3 h) = h32 := mx_eq (fun r hr => t3 r (ne_of_nm hr (by decide)) (ne_of_nm hr (by decide)))
      have r32 : ∀ r, r ∉ ([20, 21, 22, 25, 26, 27] : List Nat) → h32 r = h r := fun r hr => (t3 r (ne_of_nm hr (by decide)) (ne_of_nm hr (by decide))).trans (s3 r hr)
      have back : ∀ r ∈ clR, sw3 h32 r = h r := fun r hr => by
        by_cases c1 : r ∈ ([20, 21, 22, 25, 26, 27] : List Nat)
        · have : r = 21 ∨ r = 22 := by revert hr c1; revert r; decide
          rcases this with q | q
          · subst q
            show h32 26 = h 21
            rw [t3 26 (by decide) (by decide)]; rfl
          · subst q
            show h32 27 = h 22
            rw [t3 27 (by decide) (by decide)]; rfl
        · show h32 (sw r) = h r
          rw [sw_fix c1]; exact r32 r c1
      have hC32 : IC k a (sw3 h32) := IC_same (Nat.le_refl k) back hC
      obtain ⟨h52, z1, z2, z3, z4⟩ := searchK hW N hN hm0 (kind := c) (by omega) (h := h32) (RC_of (r32 _ (by decide)) (r32 _ (by decide)) (r32 _ (by decide)) hC.2.2.1.1) (RL_of (r32 _ (by decide)) (r32 _ (by decide)) (r32 _ (by decide)) hC.2.2.1.2.1) (by rw [ek]; exact t2) (MS_of (r32 _ (by decide)) (r32 _ (by decide)) hC.2.2.2.2.2.2.2.2.2.1)
      have m52 : ∀ r, r ∉ ([40, 41, 42, 43] : List Nat) → sw r ∉ ([40, 41, 42, 43] : List Nat) := fun r hr => by
        by_cases c1 : r ∈ ([20, 21, 22, 25, 26, 27] : List Nat)
        · exact (by decide : ∀ r ∈ ([20, 21, 22, 25, 26, 27] : List Nat), sw r ∉ ([40, 41, 42, 43] : List Nat)) r c1
        · rw [sw_fix c1]; exact hr
      have b52 : ∀ r, r ∉ ([40, 41, 42, 43] : List Nat) → sw3 h52 r = sw3 h32 r := fun r hr => z2 _ (m52 r hr)
      have hC1 : IC (k + 1) a (sw3 h52) := IC_up (Nat.le_succ k) hC [40, 43] (fun r hr hX => by
          have n1 : r ≠ 40 := ne_of_nm hX (by decide)
          have n2 : r ≠ 43 := ne_of_nm hX (by decide)
          have n3 : r ≠ 41 := ne_of_m hr (by decide)
          have n4 : r ≠ 42 := ne_of_m hr (by decide)
          refine (b52 r (fun q => ?_)).trans (back r hr)
          simp only [List.mem_cons, List.not_mem_nil, or_false] at q
          omega) (c10 := .inr (MS_of (show sw3 h52 40 = h52 40 from rfl) (show sw3 h52 43 = h52 43 from rfl) (.inr ⟨mo (sR a) (sB a), c, hm0, by omega, z3, z4⟩)))
      have hMm := IM_C (h1 := sw3 h52) hM
      obtain ⟨g, y1, y2, y3⟩ := farByM hW w N (by omega) hMm.1 (kind := c) (by omega)
      have sg : sameM (mx lC (sw3 h52) h) (hset g 100 12 0) := ⟨fun r hr => (hset_ne _ _ _ (ne_of_m hr (by decide))).trans (y2.1 r hr), fun f hf => by
        by_cases c1 : f = 12
        · subst c1; rw [hset_at, upd_at]; exact hMm.2.1.symm
        · rw [hset_at, upd_ne _ _ c1]
          refine y2.2.1 f ?_
          simp only [List.mem_cons, List.not_mem_nil, or_false] at hf ⊢
          omega⟩
      have em := (eM_q hW hm0).2
      have val := y3 _ hm0
      have v31 : sw3 h52 31 = h 31 := (b52 31 (by decide)).trans (back 31 (by decide))
      have v32 : sw3 h52 32 = h 32 := (b52 32 (by decide)).trans (back 32 (by decide))
      have fin : Inv (k + 1) b0 b1 (mx lM (hset g 100 12 0) (mx lC (sw3 h52) h)) := op_CM (VS_mono (Nat.le_succ k) hv) hC1 v31 v32 (IM_same sg hMm) h4 h5
      have kC : K_C_third N x h = some (h52 40 5, sw3 h52) := by
        unfold K_C_third
        rw [ox, bd_s, if_pos cx, if_pos rfl, noSquaresK hW hC.2.2.1.1, bd_s, if_neg w, if_pos rfl, ec, t1, bd_s, e32, nm_s, momentK (by omega) hv hC32, bd_s, sw3_sw3, z1, bd_s, mxS z2, nm_s]
        rfl
      have kM : K_M_third N x (mx lC (sw3 h52) h) = some (h52 40 5, hset g 100 12 0) := by
        unfold K_M_third
        rw [ek, efb] at y1
        rw [ix, bd_s, if_pos cx, if_neg (by decide), isNoneM hW hMm.1, bd_s, if_neg w, if_pos rfl, ec, show K_M_findFarBy N (nI c) 0 (mx lC (sw3 h52) h) = some g from y1, bd_s, nm_s, stateNowM (by omega) hv (IM_same sg hMm) w, bd_s, hset_ne _ _ _ (by decide), gA_nI (by omega) (by omega), val]
        rcases sres_val z4 with ⟨q1, q2, -⟩ | ⟨q1, q2⟩
        · rw [if_pos (show fD (sR a) c (mo (sR a) (sB a)) < 61 ∨ fD (sR a) c (mo (sR a) (sB a)) = 61 ∧ eM (sR a) (mo (sR a) (sB a)) < 0 by omega), if_neg (fun q => by have := (nI_eq_iff (b := 99999999) (by omega) (by omega)).mp q; omega), q2]
        · rw [if_neg (show ¬ (fD (sR a) c (mo (sR a) (sB a)) < 61 ∨ fD (sR a) c (mo (sR a) (sB a)) = 61 ∧ eM (sR a) (mo (sR a) (sB a)) < 0) by omega), if_pos (show nI 99999999 = 99999999 from rfl), q2]
      exact ⟨_, sw3 h52, _, kC, kM, fin⟩
  · refine ⟨-1000000002, h, mx lC h h, ?_, ?_, op_no H0⟩
    · unfold K_C_third
      rw [ox, bd_s, if_neg cx, if_neg (by decide)]
    · unfold K_M_third
      rw [ix, bd_s, if_neg cx, if_pos rfl]
theorem pm_fD {ρ : Rv} {kind m : Nat} (h : fD ρ kind m ≤ 60) : ∀ i, i ≤ fD ρ kind m → fD ρ kind (pmN ρ kind (fD ρ kind m) m i) = fD ρ kind m - i
  | 0, _ => rfl
  | i + 1, hi => by
    have ih := pm_fD h i (by omega)
    have r := pmN_rch (fD_at (ρ := ρ) (kind := kind) (m := m) (by omega)) i (by omega)
    rw [show fD ρ kind m - i = (fD ρ kind m - i - 1) + 1 by omega] at r
    obtain ⟨b1, b2, b3, -⟩ := fj_ok r
    have pin : nxp ρ kind (fD ρ kind m - i - 1) (pmN ρ kind (fD ρ kind m) m i) ∈ prs kind := by rw [b2]; exact (prK_in b1).1
    have := (fD_rch (ρ := ρ) (kind := kind) (n := fD ρ kind m - i - 1) (m := pmN ρ kind (fD ρ kind m) m i) pin (by omega) (by omega)).mp b3
    show fD ρ kind (aft ρ (knd kind) (pmN ρ kind (fD ρ kind m) m i) (nxp ρ kind (fD ρ kind m - i - 1) (pmN ρ kind (fD ρ kind m) m i))) = _
    omega
theorem MO_fewest_ok (N : Nat) (hN : 5000 < N) : MO_fewest N Inv := by
  intro k b0 b1 h x hk H
  have H0 := H
  obtain ⟨a, hv, hC, hM, h4, h5⟩ := H
  have hW := hv.1
  have hM0 := IM_C (h1 := h) hM
  by_cases w : rW (sR a) = 0
  · refine ⟨-1000000003, h, mx lC h h, ?_, ?_, op_no H0⟩
    · unfold K_C_fewest
      rw [noSquaresK hW hC.2.2.1.1, bd_s, if_pos w, if_neg (by decide)]
    · unfold K_M_fewest
      rw [isNoneM hW hM0.1, bd_s, if_pos w, if_neg (by decide)]
  · obtain ⟨h1, z1, z2, z3, z4⟩ := lookC (by omega) hv hC N hN w (kind := 0) rfl (by omega)
    have hMm := IM_C (h1 := h1) hM
    obtain ⟨g, y1, y2, y3⟩ := farByM hW w N (by omega) hMm.1 (kind := 0) (by omega)
    have sg := FB_sameM hMm.2.1 y2
    have hm0 := mo_ok hW hv.2.2.1.1 w
    have em := (eM_q hW hm0).2
    have val := y3 _ hm0
    have fin : ∀ h2 : Hp, sameM (mx lC h1 h) h2 → Inv (k + 1) b0 b1 (mx lM h2 (mx lC h1 h)) := fun h2 q => op_CM (VS_mono (Nat.le_succ k) hv) z3 (z2 31 (by decide)) (z2 32 (by decide)) (IM_same q hMm) h4 h5
    have kC : K_C_fewest N x h = (if x = -1 then some (h1 40 5, h1) else bd (K_Search_pairAt x h1) (fun v50 => some (v50, h1))) := by
      unfold K_C_fewest
      rw [noSquaresK hW hC.2.2.1.1, bd_s, if_neg w, if_pos rfl, momentK (by omega) hv hC, bd_s, show K_Search_look N (nI (mo (sR a) (sB a))) 0 h = some h1 from z1, bd_s, nm_s, mxS z2]
    have kM : K_M_fewest N x (mx lC h1 h) = (if nI (fV (sR a) 0 61 0 (mo (sR a) (sB a))) = 99999999 then K_M_fewest_J43 N x (nI (fV (sR a) 0 61 0 (mo (sR a) (sB a)))) g else if x < 0 then K_M_fewest_J43 N x (nI (fV (sR a) 0 61 0 (mo (sR a) (sB a)))) g else if x < nI (fV (sR a) 0 61 0 (mo (sR a) (sB a))) then bd (loopN (fun z_ : Int32 × Int32 × Int32 × Hp => K_M_fewest_L66 N x z_.1 (nI (fV (sR a) 0 61 0 (mo (sR a) (sB a)))) z_.2.1 z_.2.2.1 z_.2.2.2) N (nI (eM (sR a) (mo (sR a) (sB a))), 0, 0, g)) (fun t66 => some (t66.1, t66.2)) else K_M_fewest_J43 N x (nI (fV (sR a) 0 61 0 (mo (sR a) (sB a)))) g) := by
      unfold K_M_fewest
      rw [isNoneM hW hMm.1, bd_s, if_neg w, if_pos rfl, show K_M_findFarBy N 0 0 (mx lC h1 h) = some g from y1, bd_s, stateNowM (by omega) hv (IM_same sg hMm) w, bd_s, gA_nI (by omega) (by omega), val]
      rfl
    have cx0 : x < 0 ↔ x.toInt < 0 := Int32.lt_iff_toInt_lt
    have cxm : x = -1 → x.toInt = -1 := fun q => by rw [q]; decide
    rw [kC]
    suffices hh : ∃ (r : Int32) (h2 : Hp), (if x = -1 then some (h1 40 5, h1) else bd (K_Search_pairAt x h1) (fun v50 => some (v50, h1))) = some (r, h1) ∧ K_M_fewest N x (mx lC h1 h) = some (r, h2) ∧ Inv (k + 1) b0 b1 (mx lM h2 (mx lC h1 h)) by
      obtain ⟨r, h2, a1, a2, a3⟩ := hh
      exact ⟨r, h1, h2, a1, a2, a3⟩
    rw [kM]
    rcases sres_val z4 with ⟨q1, q2, q3⟩ | ⟨q1, q2⟩
    · have ev : fV (sR a) 0 61 0 (mo (sR a) (sB a)) = fD (sR a) 0 (mo (sR a) (sB a)) := by unfold fV; rw [if_pos (by omega)]
      have nf : ¬ nI (fD (sR a) 0 (mo (sR a) (sB a))) = 99999999 := fun q => by have := (nI_eq_iff (b := 99999999) (by omega) (by omega)).mp q; omega
      rw [ev, if_neg nf]
      have cxn : x < nI (fD (sR a) 0 (mo (sR a) (sB a))) ↔ x.toInt < ((fD (sR a) 0 (mo (sR a) (sB a)) : Nat) : Int) := by rw [Int32.lt_iff_toInt_lt, nI_toInt (by omega)]
      have cxl : nI (fD (sR a) 0 (mo (sR a) (sB a))) ≤ x ↔ ((fD (sR a) 0 (mo (sR a) (sB a)) : Nat) : Int) ≤ x.toInt := by rw [Int32.le_iff_toInt_le, nI_toInt (by omega)]
      unfold K_Search_pairAt K_M_fewest_J43
      rw [q2, if_neg nf]
      by_cases d0 : x.toInt < 0
      · rw [if_pos (cx0.mpr d0), if_pos (cx0.mpr d0)]
        by_cases dm : x = -1
        · rw [if_pos dm, if_pos dm]
          exact ⟨_, g, rfl, rfl, fin g sg⟩
        · rw [if_neg dm, if_neg dm]
          exact ⟨_, g, rfl, rfl, fin g sg⟩
      · have dm : ¬ x = -1 := fun q => by have := cxm q; omega
        rw [if_neg dm, if_neg (fun q => d0 (cx0.mp q)), if_neg (fun q => d0 (cx0.mp q)), if_neg dm]
        by_cases dn : x.toInt < ((fD (sR a) 0 (mo (sR a) (sB a)) : Nat) : Int)
        · rw [if_pos (cxn.mpr dn), if_neg (fun q => by have := cxl.mp q; omega)]
          obtain ⟨i, hi, ei⟩ := nat_of (x := x) (n := 59) (by omega)
          have ti : x.toInt = (i : Int) := by rw [ei, nI_toInt (by omega)]
          have hin : i < fD (sR a) 0 (mo (sR a) (sB a)) := by omega
          rw [ei, if_neg (show ¬ (60 : Int32) ≤ nI i from fun q => by have := (nI_le_iff (a := 60) (by omega) (by omega)).mp q; omega), gA_nI (by omega) (by omega), q3 i hin, pth_get _ _ _ _ _ hin]
          generalize hn : fD (sR a) 0 (mo (sR a) (sB a)) = n at *
          have okp : ∀ j, okM (sR a) (pmN (sR a) 0 n (mo (sR a) (sB a)) j) := fun j => pmN_ok hW hm0 j
          have fdp : ∀ j, j ≤ n → fD (sR a) 0 (pmN (sR a) 0 n (mo (sR a) (sB a)) j) = n - j := fun j hj => by
            have := pm_fD (ρ := sR a) (kind := 0) (m := mo (sR a) (sB a)) (by omega) j (by omega)
            rw [hn] at this
            exact this
          obtain ⟨t, l1, g', l2, l3⟩ := loopN_fx (fun z_ : Int32 × Int32 × Int32 × Hp => K_M_fewest_L66 N (nI i) z_.1 (nI n) z_.2.1 z_.2.2.1 z_.2.2.2) (fun j s => ∃ g', s = (nI (eM (sR a) (pmN (sR a) 0 n (mo (sR a) (sB a)) j)), (if j = 0 then 0 else nI (nxp (sR a) 0 (n - (j - 1) - 1) (pmN (sR a) 0 n (mo (sR a) (sB a)) (j - 1)))), nI j, g') ∧ FB 0 0 (mx lC h1 h) g' ∧ g' 108 = g 108) (i + 1) (fun t => ∃ g', FB 0 0 (mx lC h1 h) g' ∧ t = (nI (nxp (sR a) 0 (n - i - 1) (pmN (sR a) 0 n (mo (sR a) (sB a)) i)), g')) (fun j s hj hJ => by
              obtain ⟨g1, e, f1, f2⟩ := hJ
              subst e
              have hr := rch_s (ρ := sR a) (kind := 0) (n := n - j - 1) (m := pmN (sR a) 0 n (mo (sR a) (sB a)) j)
              have rr : rch (sR a) 0 (n - j - 1 + 1) (pmN (sR a) 0 n (mo (sR a) (sB a)) j) = true := by
                have := fD_at (ρ := sR a) (kind := 0) (m := pmN (sR a) 0 n (mo (sR a) (sB a)) j) (by have := fdp j (by omega); omega)
                rw [fdp j (by omega)] at this
                rw [show n - j - 1 + 1 = n - j by omega]; exact this
              obtain ⟨b1, b2, b3, b4⟩ := fj_ok rr
              have b1 : fj (sR a) 0 (n - j - 1) (pmN (sR a) 0 n (mo (sR a) (sB a)) j) < 16 := b1
              have b2 : nxp (sR a) 0 (n - j - 1) (pmN (sR a) 0 n (mo (sR a) (sB a)) j) = fj (sR a) 0 (n - j - 1) (pmN (sR a) 0 n (mo (sR a) (sB a)) j) := b2
              have fdj := fdp j (by omega)
              have okj := okp j
              have emj := (eM_q hW okj).2
              -- one try
              have try1 : ∀ p, p < 16 → ∀ g1 : Hp, FB 0 0 (mx lC h1 h) g1 → g1 108 = g 108 → ∃ g2, K_M_fewest_L75 N (nI i) (nI (eM (sR a) (pmN (sR a) 0 n (mo (sR a) (sB a)) j))) (nI n) (nI p) (nI j) g1 = (if rch (sR a) 0 (n - j - 1) (aft (sR a) 0 (pmN (sR a) 0 n (mo (sR a) (sB a)) j) p) = true then some (.inr (nI p, g2)) else some (.inl (nI (p + 1), g2))) ∧ FB 0 0 (mx lC h1 h) g2 ∧ g2 108 = g 108 := by
                intro p hp g1 f1 f2
                have pin : p ∈ prs 0 := prs_iff.mpr ⟨hp, Nat.zero_le _⟩
                obtain ⟨g2, w1, w2, w3⟩ := stepF hW N (by omega) hMm.1 (kind := 0) (fb := 0) (by omega) f1 okj hp
                have okn := aft_ok hW (kn := 0) (p := p) okj
                have eml := (eM_q hW okn).2
                have vv := fT_of ((w3 108 (by decide)).trans f2) y3 _ okn
                have vb := fV_b (sR a) 0 61 0 (aft (sR a) 0 (pmN (sR a) 0 n (mo (sR a) (sB a)) j) p)
                have ve := fV_eq (ρ := sR a) (kind := 0) (n := 61) (b := 0) (m := aft (sR a) 0 (pmN (sR a) 0 n (mo (sR a) (sB a)) j) p) (j := n - j - 1) (by omega) (by omega)
                have fr := fD_rch (ρ := sR a) (kind := 0) (n := n - j - 1) (m := pmN (sR a) 0 n (mo (sR a) (sB a)) j) pin (by omega) (by omega)
                have fr : rch (sR a) 0 (n - j - 1) (aft (sR a) 0 (pmN (sR a) 0 n (mo (sR a) (sB a)) j) p) = true ↔ fD (sR a) 0 (aft (sR a) 0 (pmN (sR a) 0 n (mo (sR a) (sB a)) j) p) = n - j - 1 := fr
                have w1 : K_M_after N (nI (eM (sR a) (pmN (sR a) 0 n (mo (sR a) (sB a)) j))) (nI (p / 4)) (nI (p % 4)) g1 = some (nI (eM (sR a) (aft (sR a) 0 (pmN (sR a) 0 n (mo (sR a) (sB a)) j) p)), g2) := w1
                refine ⟨g2, ?_, w2, (w3 108 (by decide)).trans f2⟩
                unfold K_M_fewest_L75
                rw [show (4 : Int32) = nI 4 from rfl, nI_div (by omega) (by omega) (by omega), nI_rem (by omega) (by omega) (by omega), w1, bd2_s, gA_nI (by omega) (by omega), vv, show (nI n - nI j) - 1 = nI (n - j - 1) by rw [nI_sub (by omega), show (1 : Int32) = nI 1 from rfl, nI_sub (by omega)], show nI p + 1 = nI (p + 1) from nI_add p 1, nm_s]
                have kk : nI (fV (sR a) 0 61 0 (aft (sR a) 0 (pmN (sR a) 0 n (mo (sR a) (sB a)) j) p)) = nI (n - j - 1) ↔ fV (sR a) 0 61 0 (aft (sR a) 0 (pmN (sR a) 0 n (mo (sR a) (sB a)) j) p) = n - j - 1 := nI_eq_iff (by omega) (by omega)
                show (if nI (fV (sR a) 0 61 0 (aft (sR a) 0 (pmN (sR a) 0 n (mo (sR a) (sB a)) j) p)) = nI (n - j - 1) then _ else _) = _
                by_cases cr : rch (sR a) 0 (n - j - 1) (aft (sR a) 0 (pmN (sR a) 0 n (mo (sR a) (sB a)) j) p) = true
                · rw [if_pos (kk.mpr (ve.mpr (fr.mp cr))), if_pos cr]
                · rw [if_neg (fun q => cr (fr.mpr (ve.mp (kk.mp q)))), if_neg cr]
              obtain ⟨t2, k1, g3, k2, k3, k4⟩ := loopN_fx (fun z_ : Int32 × Hp => K_M_fewest_L75 N (nI i) (nI (eM (sR a) (pmN (sR a) 0 n (mo (sR a) (sB a)) j))) (nI n) z_.1 (nI j) z_.2) (fun p s => ∃ g', s = (nI p, g') ∧ FB 0 0 (mx lC h1 h) g' ∧ g' 108 = g 108) (fj (sR a) 0 (n - j - 1) (pmN (sR a) 0 n (mo (sR a) (sB a)) j)) (fun t => ∃ g', FB 0 0 (mx lC h1 h) g' ∧ g' 108 = g 108 ∧ t = (nI (fj (sR a) 0 (n - j - 1) (pmN (sR a) 0 n (mo (sR a) (sB a)) j)), g')) (fun p s hp hJ => by
                  obtain ⟨g1, e, f1, f2⟩ := hJ
                  subst e
                  obtain ⟨g2, w1, w2, w3⟩ := try1 p (by omega) g1 f1 f2
                  have b5 : rch (sR a) 0 (n - j - 1) (aft (sR a) 0 (pmN (sR a) 0 n (mo (sR a) (sB a)) j) p) = false := b4 p hp
                  rw [b5, if_neg (by decide)] at w1
                  exact ⟨_, w1, g2, rfl, w2, w3⟩) (fun s hJ => by
                  obtain ⟨g1, e, f1, f2⟩ := hJ
                  subst e
                  obtain ⟨g2, w1, w2, w3⟩ := try1 _ b1 g1 f1 f2
                  have b5 : rch (sR a) 0 (n - j - 1) (aft (sR a) 0 (pmN (sR a) 0 n (mo (sR a) (sB a)) j) (fj (sR a) 0 (n - j - 1) (pmN (sR a) 0 n (mo (sR a) (sB a)) j))) = true := by rw [← b2]; exact b3
                  rw [b5, if_pos rfl] at w1
                  exact ⟨_, w1, g2, w2, w3, rfl⟩) (s0 := (0, g1)) ⟨g1, rfl, f1, f2⟩ (N := N) (by omega)
              subst k4
              obtain ⟨g2, w1, w2, w3⟩ := stepF hW N (by omega) hMm.1 (kind := 0) (fb := 0) (by omega) k2 okj b1
              have w1 : K_M_after N (nI (eM (sR a) (pmN (sR a) 0 n (mo (sR a) (sB a)) j))) (nI (fj (sR a) 0 (n - j - 1) (pmN (sR a) 0 n (mo (sR a) (sB a)) j) / 4)) (nI (fj (sR a) 0 (n - j - 1) (pmN (sR a) 0 n (mo (sR a) (sB a)) j) % 4)) g3 = some (nI (eM (sR a) (aft (sR a) 0 (pmN (sR a) 0 n (mo (sR a) (sB a)) j) (fj (sR a) 0 (n - j - 1) (pmN (sR a) 0 n (mo (sR a) (sB a)) j)))), g2) := w1
              refine ⟨(nI (eM (sR a) (pmN (sR a) 0 n (mo (sR a) (sB a)) (j + 1))), nI (nxp (sR a) 0 (n - j - 1) (pmN (sR a) 0 n (mo (sR a) (sB a)) j)), nI (j + 1), g2), ?_, g2, rfl, w2, (w3 108 (by decide)).trans k3⟩
              show K_M_fewest_L66 N (nI i) (nI _) (nI n) _ (nI j) g1 = _
              unfold K_M_fewest_L66
              rw [if_neg (fun q => by have := (nI_lt_iff (by omega) (by omega)).mp q; omega), show loopN (fun z_ : Int32 × Hp => K_M_fewest_L75 N (nI i) (nI (eM (sR a) (pmN (sR a) 0 n (mo (sR a) (sB a)) j))) (nI n) z_.1 (nI j) z_.2) N (0, g1) = _ from k1, bd_s, show (4 : Int32) = nI 4 from rfl, nI_div (by omega) (by omega) (by omega), nI_rem (by omega) (by omega) (by omega), w1, bd2_s, show nI j + 1 = nI (j + 1) from nI_add j 1, nm_s, ← b2]
              rfl) (fun s hJ => by
              obtain ⟨g1, e, f1, f2⟩ := hJ
              subst e
              refine ⟨(nI (nxp (sR a) 0 (n - i - 1) (pmN (sR a) 0 n (mo (sR a) (sB a)) i)), g1), ?_, g1, f1, rfl⟩
              show K_M_fewest_L66 N (nI i) (nI _) (nI n) _ (nI (i + 1)) g1 = _
              unfold K_M_fewest_L66
              rw [if_pos ((nI_lt_iff (by omega) (by omega)).mpr (by omega))]
              rfl) (s0 := (nI (eM (sR a) (mo (sR a) (sB a))), 0, 0, g)) ⟨g, rfl, y2, rfl⟩ (N := N) (by omega)
          subst l3
          refine ⟨nI (nxp (sR a) 0 (n - i - 1) (pmN (sR a) 0 n (mo (sR a) (sB a)) i)), g', rfl, ?_, fin g' (FB_sameM hMm.2.1 l2)⟩
          rw [l1, bd_s]
        · rw [if_neg (fun q => dn (cxn.mp q)), if_pos (cxl.mpr (by omega))]
          exact ⟨_, g, rfl, rfl, fin g sg⟩
    · have ev : fV (sR a) 0 61 0 (mo (sR a) (sB a)) = 99999999 := by unfold fV; rw [if_neg (by omega)]
      rw [ev, if_pos (show nI 99999999 = 99999999 from rfl)]
      unfold K_Search_pairAt K_M_fewest_J43
      rw [q2, if_pos (show nI 99999999 = 99999999 from rfl)]
      by_cases dm : x = -1
      · rw [if_pos dm]
        exact ⟨_, g, rfl, rfl, fin g sg⟩
      · rw [if_neg dm]
        by_cases d0 : x.toInt < 0
        · rw [if_pos (cx0.mpr d0)]
          exact ⟨_, g, rfl, rfl, fin g sg⟩
        · have cm1 : (-1 : Int32) ≤ x := by
            rw [Int32.le_iff_toInt_le]
            have : (-1 : Int32).toInt = -1 := by decide
            omega
          rw [if_neg (fun q => d0 (cx0.mp q)), if_pos cm1]
          exact ⟨-1, g, rfl, rfl, fin g sg⟩
