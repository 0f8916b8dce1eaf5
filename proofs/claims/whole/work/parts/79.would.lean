/-! set; would -/
theorem MO_set_ok (N : Nat) : MO_set N Inv := by
  intro k b0 b1 h x y z0 hk H
  have H0 := H
  obtain ⟨a, hv, hC, hM, h4, h5⟩ := H
  have hW := hv.1
  have hR := hC.2.2.1.1
  have oC : ∀ z, K_C_isOutside z 0 7 = some (if 0 ≤ z.toInt ∧ z.toInt ≤ 7 then 0 else 1) := fun z => outX (by decide) (by decide) (by decide) (by decide) (by decide) (by decide)
  have oM : ∀ z, K_M_in (Int32.toInt64 z) 0 7 = some (if 0 ≤ z.toInt ∧ z.toInt ≤ 7 then 1 else 0) := fun z => inX (by decide) (by decide) (by decide) (by decide) (by decide) (by decide)
  by_cases c : 0 ≤ x.toInt ∧ x.toInt < rW (sR a) ∧ 0 ≤ y.toInt ∧ y.toInt < rH (sR a)
  · obtain ⟨s, s1, s2, s3, s4, s5⟩ := sq_of hW c
    have l := inR_lt hW s1
    have cm := cM_b hW s1
    have b := WH_b hW
    have w0 : rW (sR a) ≠ 0 := fun z => by have := s1.1; omega
    by_cases cd : 0 ≤ z0.toInt ∧ z0.toInt ≤ 7
    · obtain ⟨d, hd, ed⟩ := nat_of (x := z0) (n := 7) cd
      subst ed
      have k6 := hW.2.2.2.2.2.2.2.2.2.2.2.2.1 s
      have k1 : nI (kd (sR a) s) = (1 : Int32) ↔ kd (sR a) s = 1 := nI_eq_iff (b := 1) (by omega) (by omega)
      by_cases f : kd (sR a) s = 1
      · have hM0 := IM_C (h1 := h) hM
        refine ⟨-1000000003, h, mx lC h h, ?_, ?_, op_no H0⟩
        · unfold K_C_set
          rw [hasX hW hR, bd_s, if_pos c, if_neg (by decide), oC, bd_s, if_pos cd, if_pos rfl, nm_s, s2, kindK hR l, bd_s, if_pos (k1.mpr f)]
        · unfold K_M_set
          rw [isSquareX hW hM0.1, bd_s, if_pos c, if_neg (by decide), oM, bd_s, if_pos cd, if_neg (by decide), gA_lit (x := 0) (i := 0) rfl (by omega) (by omega), hM0.1.1, s3, nm_s, gA_nI (by omega) (by omega), hM0.1.2.2.2.2.2.2.2.2.2.2.1 s s1, if_pos (k1.mpr f)]
      · let u := 8 * s + d
        let h1 := hset h 30 0 (nI u)
        have o1 : ∀ r, r ∉ [30] → h1 r = h r := fun r z => hset_ne _ _ _ (ne_of_nm z (by decide))
        have hM' : IM a (mx lC h1 h) := IM_C hM
        let hm := mx lC h1 h
        let q1 := hset hm 101 0 (nI (cM (sR a) s))
        let q2 := hset q1 101 1 (nI d)
        have v := VS_mono (Nat.le_succ k) hv
        have eu : u / 8 = s := by simp only [u]; omega
        have eu2 : u % 8 = d := by simp only [u]; omega
        have p2 : ∀ j, 2 ≤ j → q2 101 j = hm 101 j := fun j z => by
          simp only [q2, q1]; rw [hset_at, upd_ne _ _ (by omega), hset_at, upd_ne _ _ (by omega)]
        have w2 : ∀ r, r ≠ 101 → q2 r = hm r := fun r z => by
          simp only [q2, q1]; rw [hset_ne _ _ _ z, hset_ne _ _ _ z]
        refine ⟨pl (sB a).1, h1, q2, ?_, ?_, op_CM (a' := aB a (u, (sB a).2)) ⟨v.1, v.2.1, ⟨⟨by show u < 384; simp only [u]; omega, fun z => absurd z w0, fun _ => ⟨by show u / 8 < 48; omega, by show kd (sR a) (u / 8) ≠ 1; rw [eu]; exact f⟩⟩, v.2.2.1.2⟩, v.2.2.2⟩ ?_ (o1 _ (by decide)) (o1 _ (by decide)) ?_ h4 h5⟩
        · unfold K_C_set
          rw [hasX hW hR, bd_s, if_pos c, if_neg (by decide), oC, bd_s, if_pos cd, if_pos rfl, nm_s, s2, kindK hR l, bd_s, if_neg (fun z => f (k1.mp z)), placeNowK hv hC, bd_s, show (8 : Int32) = nI 8 from rfl, nI_mul, nI_add, nm_s, show s * 8 + d = u by simp only [u]; omega]
        · unfold K_M_set
          show bd (K_M_isSquare x y hm) _ = _
          rw [isSquareX hW hM'.1, bd_s, if_pos c, if_neg (by decide), oM, bd_s, if_pos cd, if_neg (by decide), gA_lit (x := 0) (i := 0) rfl (by omega) (by omega), hM'.1.1, s3, nm_s, gA_nI (by omega) (by omega), hM'.1.2.2.2.2.2.2.2.2.2.2.1 s s1, if_neg (fun z => f (k1.mp z)), gA_lit (x := 0) (i := 0) rfl (by omega) (by omega), placeNowM hv hM', bd_s, show (0 : Int32) = nI 0 from rfl, sA_nI (by omega) (by omega), nI_cl (by omega), nm_s, show (1 : Int32) = nI 1 from rfl, sA_nI (by omega) (by omega), nI_cl (by omega), nm_s]
        · refine IC_up (Nat.le_succ k) hC [30] (fun r _ z => o1 r z) (c4 := .inr ⟨?_, ?_, ?_⟩)
          · simp only [h1]; rw [hset_at, upd_at]; rfl
          · simp only [h1]; rw [hset_at, upd_ne _ _ (by decide)]; exact hC.2.2.2.1.2.1
          · simp only [h1]; rw [hset_at, upd_ne _ _ (by decide)]; exact hC.2.2.2.1.2.2
        · refine IM_up hM' [101] [] (fun r hr z => w2 r (ne_of_nm z (by decide))) (fun f hf z => by rw [w2 100 (by decide)]) (c2 := ?_) (c5 := .inr ⟨?_, ?_, ?_, ?_⟩) (c9 := .inr (mI_of ?_ (fun j hj => p2 _ (by omega)) hM'.2.2.2.2.2.2.2.2.1)) (c10 := .inr (mI_of ?_ (fun j hj => p2 _ (by omega)) hM'.2.2.2.2.2.2.2.2.2))
          · rw [w2 100 (by decide)]; exact hM'.2.1
          · show _ = nI (cM _ (u / 8))
            rw [eu]; simp only [q2, q1]; rw [hset_at, upd_ne _ _ (by decide), hset_at, upd_at]; rfl
          · show _ = nI (u % 8)
            rw [eu2]; simp only [q2]; rw [hset_at, upd_at]
          · rw [show (0 + 2) = 2 from rfl, p2 2 (by omega)]; exact hM'.2.2.2.2.1.2.2.1
          · rw [show (0 + 3) = 3 from rfl, p2 3 (by omega)]; exact hM'.2.2.2.2.1.2.2.2
          · rw [w2 _ (by decide)]
          · rw [w2 _ (by decide)]
    · refine ⟨-1000000002, h, mx lC h h, ?_, ?_, op_no H0⟩
      · unfold K_C_set
        rw [hasX hW hR, bd_s, if_pos c, if_neg (by decide), oC, bd_s, if_neg cd, if_neg (by decide)]
      · unfold K_M_set
        rw [isSquareX hW (IM_C (h1 := h) hM).1, bd_s, if_pos c, if_neg (by decide), oM, bd_s, if_neg cd, if_pos rfl]
  · refine ⟨-1000000001, h, mx lC h h, ?_, ?_, op_no H0⟩
    · unfold K_C_set
      rw [hasX hW hR, bd_s, if_neg c, if_pos rfl]
    · unfold K_M_set
      rw [isSquareX hW (IM_C (h1 := h) hM).1, bd_s, if_neg c, if_pos rfl]
theorem squareOfK {m : Nat} (hm : m < 2147483648) : K_C_squareOf (nI m) = some (nI (m % 384 / 8)) := by
  unfold K_C_squareOf
  rw [show (384 : Int32) = nI 384 from rfl, nI_rem (by omega) (by omega) (by omega), show (8 : Int32) = nI 8 from rfl, nI_div (by omega) (by omega) (by omega)]
theorem headM {m : Nat} (hm : m < 2147483648) : K_C_headingOf (nI m) = some (nI (m % 8)) := by
  unfold K_C_headingOf
  rw [show (8 : Int32) = nI 8 from rfl, nI_rem (by omega) (by omega) (by omega)]
/-- the reference goes through a stroke from where the boat is -/
theorem aheadM {k : Nat} {a : St} {h : Hp} (N : Nat) (hN : 200 < N) (hk : k ≤ 64) (hv : VS k a) (hM : IM a h) (w : rW (sR a) ≠ 0) {p : Nat} (hp : p < 16) : ∃ h1 h2, K_M_strokeFrom N (h 101 0) (h 101 1) (nI (p / 4)) (nI (p % 4)) h = some h1 ∧ h1 101 = h 101 ∧ K_M_windAt (h 101 2 + 1) h1 = some h2 ∧ sameM h h2 ∧ h2 100 13 = nI (cM (sR a) (aft (sR a) 0 (mo (sR a) (sB a)) p % 384 / 8)) ∧ h2 100 14 = nI (aft (sR a) 0 (mo (sR a) (sB a)) p % 8) := by
  have hW := hv.1
  have ho := hv.2.2.1.1
  have u := ho.1
  have n := hv.2.2.1.2.1
  have hs := okS_in hW (ho.2.2 w)
  have pt := mo_parts hW u
  have mb := hM.2.2.2.2.1
  have sf := strokeFromM hW N (by omega) hM.1 (kn := 0) (by omega) hM.2.1 (s := (sB a).1 / 8) (d := (sB a).1 % 8) (p := p) hs (by omega) hp
  have ap := aft_parts hW (kn := 0) (p := p) (mm := mo (sR a) (sB a)) (n := (sB a).2.1) pt.1.symm (by rw [pt.2.2.2.1]; omega)
  rw [pt.2.2.2.1, pt.2.2.2.2.1] at ap
  let D := dd ((sB a).1 % 8) (trI (sR a) 0 p)
  let S := pu (sR a) ((sB a).1 / 8) D (psI (sR a) 0 p)
  let S2 := if ((sB a).2.1 + 1) % tmv (sR a) = 0 then bl (sR a) S else S
  have wa := windAtM hW hM.1 (s := S) (d := D) (n := (sB a).2.1 + 1) (pu_in hW hs).2 (by omega)
  refine ⟨nx h D (cM (sR a) S), nx h D (cM (sR a) S2), ?_, nx_ne _ _ _ (by decide), ?_, sameM_nx h _ _, ?_, ?_⟩
  · rw [show h 101 0 = _ from mb.1, show h 101 1 = _ from mb.2.1]
    exact sf
  · rw [show h 101 2 = _ from mb.2.2.1, show (1 : Int32) = nI 1 from rfl, nI_add]
    exact wa
  · rw [nx_13, ap.1]
  · rw [nx_14, ap.2.1]
theorem aft_lt' {ρ : Rv} (hW : WF ρ) {b : Nat × Nat × Nat} (hu : b.1 < 384) (p : Nat) : aft ρ 0 (mo ρ b) p < 3456 := (aft_lt (mo_parts hW hu).2.2.1 hW).2
theorem aft_P {ρ : Rv} (hW : WF ρ) {b : Nat × Nat × Nat} (h : okU ρ b.1) (w : rW ρ ≠ 0) (p : Nat) : okP ρ (aft ρ 0 (mo ρ b) p % 384 / 8) := ⟨fun z => absurd z w, fun _ => okS_in hW (aft_ok hW (mo_ok hW h w)).2⟩
theorem MO_would_ok (N : Nat) (hN : 200 < N) : MO_would N Inv := by
  intro k b0 b1 h x y z0 hk H
  have H0 := H
  obtain ⟨a, hv, hC, hM, h4, h5⟩ := H
  have hW := hv.1
  have oM : ∀ z, K_M_in (Int32.toInt64 z) 0 3 = some (if 0 ≤ z.toInt ∧ z.toInt ≤ 3 then 1 else 0) := fun z => inX (by decide) (by decide) (by decide) (by decide) (by decide) (by decide)
  have no : ∀ r, K_C_would x y z0 h = some r → K_M_would N x y z0 h = some (r, h) → ∃ (r : Int32) (h2 : Hp), K_C_would x y z0 h = some r ∧ K_M_would N x y z0 h = some (r, h2) ∧ Inv (k + 1) b0 b1 (mx lM h2 h) := fun r e1 e2 => ⟨r, h, e1, e2, Inv_M (sameM_rf h) H0⟩
  by_cases cx : 0 ≤ x.toInt ∧ x.toInt ≤ 3
  · by_cases cy : 0 ≤ y.toInt ∧ y.toInt ≤ 3
    · by_cases cz : 0 ≤ z0.toInt ∧ z0.toInt ≤ 3
      · by_cases w : rW (sR a) = 0
        · refine no (-1000000003) ?_ ?_
          · unfold K_C_would
            rw [out3, out3, out3, noSquaresK hW hC.2.2.1.1, bd_s, bd_s, bd_s, bd_s, if_pos cx, if_pos rfl, if_pos cy, if_pos rfl, if_pos cz, if_pos rfl, if_pos w, if_neg (by decide)]
          · unfold K_M_would
            rw [isStrokeX, isStrokeX, oM, isNoneM hW hM.1, bd_s, bd_s, bd_s, bd_s, if_pos cx, if_neg (by decide), if_pos cy, if_neg (by decide), if_pos cz, if_neg (by decide), if_pos w, if_neg (by decide)]
        · obtain ⟨i, hi, ei⟩ := nat_of (x := x) (n := 3) cx
          obtain ⟨j, hj, ej⟩ := nat_of (x := y) (n := 3) cy
          obtain ⟨q, hq, eq⟩ := nat_of (x := z0) (n := 3) cz
          have e : (4 * x) + y = nI (4 * i + j) := by rw [ei, ej, show (4 : Int32) = nI 4 from rfl, nI_mul, nI_add]
          have f1 : x = nI ((4 * i + j) / 4) := by rw [ei]; exact congrArg nI (by omega)
          have f2 : y = nI ((4 * i + j) % 4) := by rw [ej]; exact congrArg nI (by omega)
          have hp : 4 * i + j < 16 := by omega
          obtain ⟨h1, h2, z1, z2, z3, z4, z5, z6⟩ := aheadM N hN (by omega) hv hM w hp
          have ho := hv.2.2.1.1
          have pt := mo_parts hW ho.1
          have al := aft_lt' hW ho.1 (4 * i + j)
          have hM2 := IM_same z4 hM
          have eC : K_C_would x y z0 h = (if z0 = 0 then (bd (K_C_moment h) <| fun v81 => bd (K_Crew_after v81 (nI (4 * i + j)) h) <| fun v86 => bd (K_C_squareOf v86) <| fun v89 => bd (K_C_placeOf v89) <| fun v92 => some v92) else ( if z0 = 1 then (bd (K_C_moment h) <| fun v101 => bd (K_Crew_after v101 (nI (4 * i + j)) h) <| fun v106 => bd (K_C_headingOf v106) <| fun v109 => some v109) else ( if z0 = 2 then (bd (K_Crew_turnOf (nI (4 * i + j)) h) <| fun v119 => some v119) else (bd (K_Crew_pushOf (nI (4 * i + j)) h) <| fun v129 => some v129)))) := by
            unfold K_C_would
            rw [out3, out3, out3, noSquaresK hW hC.2.2.1.1, bd_s, bd_s, bd_s, bd_s, if_pos cx, if_pos rfl, if_pos cy, if_pos rfl, if_pos cz, if_pos rfl, if_neg w, if_pos rfl, nm_s, e]
          have eM : K_M_would N x y z0 h = (if z0 = 0 then (bd (K_M_pair (h2 100 13) h2) <| fun v78 => some (v78, h2)) else ( if z0 = 1 then ( some ((h2 100 14), h2)) else ( if z0 = 2 then (bd (K_M_turnBy x y h2) <| fun v104 => some (v104, h2)) else (bd (K_M_pushBy x y h2) <| fun v113 => some (v113, h2))))) := by
            have z1' : K_M_strokeFrom N (h 101 0) (h 101 1) x y h = some h1 := by rw [f1, f2]; exact z1
            unfold K_M_would
            rw [isStrokeX, isStrokeX, oM, isNoneM hW hM.1, bd_s, bd_s, bd_s, bd_s, if_pos cx, if_neg (by decide), if_pos cy, if_neg (by decide), if_pos cz, if_neg (by decide), if_neg w, if_pos rfl, gA_lit (x := 0) (i := 0) rfl (by omega) (by omega), gA_lit (x := 1) (i := 1) rfl (by omega) (by omega), z1', bd_s, gA_lit (x := 2) (i := 2) rfl (by omega) (by omega), z2, z3, bd_s]
          have fin : ∀ r, K_C_would x y z0 h = some r → K_M_would N x y z0 h = some (r, h2) → ∃ (r : Int32) (h2 : Hp), K_C_would x y z0 h = some r ∧ K_M_would N x y z0 h = some (r, h2) ∧ Inv (k + 1) b0 b1 (mx lM h2 h) := fun r e1 e2 => ⟨r, h2, e1, e2, Inv_M z4 H0⟩
          have af := afterK hW hC.2.2.1.2.1 (kn := 0) (by omega) hC.2.2.1.2.2 pt.2.2.1 hp
          have dq : q = 0 ∨ q = 1 ∨ q = 2 ∨ q = 3 := by omega
          rcases dq with d | d | d | d
          · have z00 : z0 = 0 := by rw [eq, d]; rfl
            refine fin (pl (aft (sR a) 0 (mo (sR a) (sB a)) (4 * i + j) % 384)) ?_ ?_
            · rw [eC, if_pos z00, momentK (by omega) hv hC, bd_s, af, bd_s, squareOfK (by omega), bd_s, placeK (by omega), bd_s]
              rfl
            · rw [eM, if_pos z00, z5, pairM hW hM2.1 (aft_P hW ho w _), bd_s]
              rfl
          · have z00 : ¬ z0 = 0 := by rw [eq, d]; decide
            have z01 : z0 = 1 := by rw [eq, d]; rfl
            refine fin (nI (aft (sR a) 0 (mo (sR a) (sB a)) (4 * i + j) % 8)) ?_ ?_
            · rw [eC, if_neg z00, if_pos z01, momentK (by omega) hv hC, bd_s, af, bd_s, headM (by omega), bd_s]
            · rw [eM, if_neg z00, if_pos z01, z6]
          · have z00 : ¬ z0 = 0 := by rw [eq, d]; decide
            have z01 : ¬ z0 = 1 := by rw [eq, d]; decide
            have z02 : z0 = 2 := by rw [eq, d]; rfl
            refine fin (iI (trI (sR a) 0 (4 * i + j))) ?_ ?_
            · rw [eC, if_neg z00, if_neg z01, if_pos z02, turnOfK hC.2.2.1.2.2 hp, bd_s]
            · rw [eM, if_neg z00, if_neg z01, if_pos z02, f1, f2, turnByM hW hM2.1 (kn := 0) (by omega) hM2.2.1 hp, bd_s]
          · have z00 : ¬ z0 = 0 := by rw [eq, d]; decide
            have z01 : ¬ z0 = 1 := by rw [eq, d]; decide
            have z02 : ¬ z0 = 2 := by rw [eq, d]; decide
            refine fin (iI (psI (sR a) 0 (4 * i + j))) ?_ ?_
            · rw [eC, if_neg z00, if_neg z01, if_neg z02, pushOfK hC.2.2.1.2.2 hp, bd_s]
            · rw [eM, if_neg z00, if_neg z01, if_neg z02, f1, f2, pushByM hW hM2.1 (kn := 0) (by omega) hM2.2.1 hp, bd_s]
      · refine no (-1000000002) ?_ ?_
        · unfold K_C_would
          rw [out3, out3, out3, bd_s, bd_s, bd_s, if_pos cx, if_pos rfl, if_pos cy, if_pos rfl, if_neg cz, if_neg (by decide)]
        · unfold K_M_would
          rw [isStrokeX, isStrokeX, oM, bd_s, bd_s, bd_s, if_pos cx, if_neg (by decide), if_pos cy, if_neg (by decide), if_neg cz, if_pos rfl]
    · refine no (-1000000002) ?_ ?_
      · unfold K_C_would
        rw [out3, out3, bd_s, bd_s, if_pos cx, if_pos rfl, if_neg cy, if_neg (by decide)]
      · unfold K_M_would
        rw [isStrokeX, isStrokeX, bd_s, bd_s, if_pos cx, if_neg (by decide), if_neg cy, if_pos rfl]
  · refine no (-1000000002) ?_ ?_
    · unfold K_C_would
      rw [out3, bd_s, if_neg cx, if_neg (by decide)]
    · unfold K_M_would
      rw [isStrokeX, bd_s, if_neg cx, if_pos rfl]
