/-! stroke, back, set -/
theorem loopN_fx {α β : Type} (body : α → Option (α ⊕ β)) (J : Nat → α → Prop) (e : Nat) (P : β → Prop) (hs : ∀ i s, i < e → J i s → ∃ s', body s = some (.inl s') ∧ J (i + 1) s') (he : ∀ s, J e s → ∃ t, body s = some (.inr t) ∧ P t) {s0 : α} (h0 : J 0 s0) {N : Nat} (hN : e < N) : ∃ t, loopN body N s0 = some t ∧ P t := by
  have key : ∀ (d i n : Nat) (s : α), i + d = e → d < n → J i s → ∃ t, loopN body n s = some t ∧ P t := by
    intro d
    induction d with
    | zero =>
      intro i n s hi hn hj
      obtain ⟨n, rfl⟩ : ∃ m, n = m + 1 := ⟨n - 1, by omega⟩
      have : i = e := by omega
      subst this
      obtain ⟨t, z1, z2⟩ := he s hj
      exact ⟨t, loopN_t n z1, z2⟩
    | succ d ih =>
      intro i n s hi hn hj
      obtain ⟨n, rfl⟩ : ∃ m, n = m + 1 := ⟨n - 1, by omega⟩
      obtain ⟨s', z1, z2⟩ := hs i s (by omega) hj
      rw [loopN_s n z1]
      exact ih (i + 1) n s' (by omega) (by omega) z2
  exact key e 0 N s0 (by omega) hN h0
theorem hset_id {h : Hp} {r k : Nat} {v : Int32} (e : h r k = v) : hset h r k v = h := by
  unfold hset
  have : upd (h r) k v = h r := by
    funext j
    by_cases c : j = k
    · subst c; rw [upd_at]; exact e.symm
    · rw [upd_ne _ _ c]
  rw [this, hrow_self]
theorem isStrokeX (x : Int32) : K_M_isStroke x = some (if 0 ≤ x.toInt ∧ x.toInt ≤ 3 then 1 else 0) := by
  unfold K_M_isStroke
  rw [inX (a := 0) (b := 3) (lo := 0) (hi := 3) (by decide) (by decide) (by decide) (by decide) (by decide) (by decide), bd_s]
  by_cases c : 0 ≤ x.toInt ∧ x.toInt ≤ 3
  · rw [if_pos c]; rfl
  · rw [if_neg c]; rfl
def pl (u : Nat) : Int32 := nI (10 * (u / 8 % 8) + u / 8 / 8)
theorem placeNowK {k : Nat} {a : St} {h : Hp} (hv : VS k a) (hC : IC k a h) : K_C_placeOf ((h 30 0) / 8) = some (pl (sB a).1) := by
  have u := hv.2.2.1.1.1
  rw [hC.2.2.2.1.1, show (8 : Int32) = nI 8 from rfl, nI_div (by omega) (by omega) (by omega), placeK (by omega)]
  rfl
theorem placeNowM {k : Nat} {a : St} {h : Hp} (hv : VS k a) (hM : IM a h) : K_M_pair (h 101 0) h = some (pl (sB a).1) := by
  rw [hM.2.2.2.2.1.1, pairM hv.1 hM.1 (okU_P hv.1 hv.2.2.1.1)]
  rfl
theorem out3 (x : Int32) : K_C_isOutside x 0 3 = some (if 0 ≤ x.toInt ∧ x.toInt ≤ 3 then 0 else 1) := outX (by decide) (by decide) (by decide) (by decide) (by decide) (by decide)
theorem MO_stroke_ok (N : Nat) (hN : 200 < N) : MO_stroke N Inv := by
  intro k b0 b1 h x y hk H
  have H0 := H
  obtain ⟨a, hv, hC, hM, h4, h5⟩ := H
  have hW := hv.1
  have hM0 := IM_C (h1 := h) hM
  by_cases cx : 0 ≤ x.toInt ∧ x.toInt ≤ 3
  · by_cases cy : 0 ≤ y.toInt ∧ y.toInt ≤ 3
    · by_cases w : rW (sR a) = 0
      · refine ⟨-1000000003, h, mx lC h h, ?_, ?_, op_no H0⟩
        · unfold K_C_stroke
          rw [out3, out3, noSquaresK hW hC.2.2.1.1, bd_s, bd_s, bd_s, if_pos cx, if_pos rfl, if_pos cy, if_pos rfl, if_pos w, if_neg (by decide)]
        · unfold K_M_stroke
          rw [isStrokeX, isStrokeX, isNoneM hW hM0.1, bd_s, bd_s, bd_s, if_pos cx, if_neg (by decide), if_pos cy, if_neg (by decide), if_pos w, if_neg (by decide)]
      · obtain ⟨i, hi, ei⟩ := nat_of (x := x) (n := 3) cx
        obtain ⟨j, hj, ej⟩ := nat_of (x := y) (n := 3) cy
        obtain ⟨h1, z1, z2, z3⟩ := paddleC (by omega) hv hC (p := 4 * i + j) (by omega)
        obtain ⟨h2, z4, z5⟩ := goM N hN (by omega) hv (IM_C (h1 := h1) hM) w (p := 4 * i + j) (by omega)
        have hv' := VS_aP (k' := k + 1) hv (by omega) (by have := hv.2.2.1.2.1; omega) w (4 * i + j)
        have hC' := IC_same (Nat.le_succ k) (fun _ _ => rfl) z2
        refine ⟨pl (sB (aP a (4 * i + j))).1, h1, h2, ?_, ?_, op_CM hv' hC' (z3 _ (by decide)) (z3 _ (by decide)) z5 h4 h5⟩
        · unfold K_C_stroke
          have e : (4 * x) + y = nI (4 * i + j) := by rw [ei, ej, show (4 : Int32) = nI 4 from rfl, nI_mul, nI_add]
          rw [out3, out3, noSquaresK hW hC.2.2.1.1, bd_s, bd_s, bd_s, if_pos cx, if_pos rfl, if_pos cy, if_pos rfl, if_neg w, if_pos rfl, e, z1, bd_s, placeNowK hv' hC', bd_s]
        · unfold K_M_stroke
          have f1 : x = nI ((4 * i + j) / 4) := by rw [ei]; exact congrArg nI (by omega)
          have f2 : y = nI ((4 * i + j) % 4) := by rw [ej]; exact congrArg nI (by omega)
          rw [isStrokeX, isStrokeX, isNoneM hW (IM_C hM).1, bd_s, bd_s, bd_s, if_pos cx, if_neg (by decide), if_pos cy, if_neg (by decide), if_neg w, if_pos rfl, f1, f2, z4, bd_s, gA_lit (x := 0) (i := 0) rfl (by omega) (by omega), placeNowM hv' z5, bd_s]
    · refine ⟨-1000000002, h, mx lC h h, ?_, ?_, op_no H0⟩
      · unfold K_C_stroke
        rw [out3, out3, bd_s, bd_s, if_pos cx, if_pos rfl, if_neg cy, if_neg (by decide)]
      · unfold K_M_stroke
        rw [isStrokeX, isStrokeX, bd_s, bd_s, if_pos cx, if_neg (by decide), if_neg cy, if_pos rfl]
  · refine ⟨-1000000002, h, mx lC h h, ?_, ?_, op_no H0⟩
    · unfold K_C_stroke
      rw [out3, bd_s, if_neg cx, if_neg (by decide)]
    · unfold K_M_stroke
      rw [isStrokeX, bd_s, if_neg cx, if_pos rfl]
theorem fm50 : ∀ z, z < 100 → K_JMath_floorMod (nI z - nI 50) 50 = some (nI (z % 50)) := by decide +kernel
def aK (a : St) (n : Nat) : St := aL (aB a ((sL a).getD (n - 1) 0, (sB a).2.1 - n, (sB a).2.2)) ((sL a).drop n)
theorem drop_get (l : List Nat) (n j : Nat) : (l.drop n).getD j 0 = l.getD (n + j) 0 := by simp [List.getD]
theorem getD_mem {l : List Nat} {j : Nat} (h : j < l.length) : l.getD j 0 ∈ l := by
  have : l.getD j 0 = l[j] := by simp [List.getD, h]
  rw [this]; exact List.getElem_mem h
theorem MO_back_ok (N : Nat) (hN : 200 < N) : MO_back N Inv := by
  intro k b0 b1 h x hk H
  have H0 := H
  obtain ⟨a, hv, hC, hM, h4, h5⟩ := H
  have hW := hv.1
  have hM0 := IM_C (h1 := h) hM
  have ll := hv.2.2.2.1.1
  have lc := hv.2.2.2.1.2.1
  have cn := hv.2.2.1.2.1
  obtain ⟨nx, hn, e1, e2, e3⟩ := hC.2.2.2.2.1
  have oC : K_C_isOutside x 1 50 = some (if 1 ≤ x.toInt ∧ x.toInt ≤ 50 then 0 else 1) := outX (by decide) (by decide) (by decide) (by decide) (by decide) (by decide)
  have oM : K_M_in (Int32.toInt64 x) 1 50 = some (if 1 ≤ x.toInt ∧ x.toInt ≤ 50 then 1 else 0) := inX (by decide) (by decide) (by decide) (by decide) (by decide) (by decide)
  by_cases cx : 1 ≤ x.toInt ∧ x.toInt ≤ 50
  · obtain ⟨n, hn2, en⟩ := nat_of (x := x) (n := 50) ⟨by omega, cx.2⟩
    subst en
    have n1 : 1 ≤ n := by
      have := cx.1
      rw [nI_iI, iI_toInt (by omega) (by omega)] at this
      omega
    have kl : nI n ≤ nI (sL a).length ↔ n ≤ (sL a).length := nI_le_iff (by omega) (by omega)
    by_cases c : n ≤ (sL a).length
    · let m := (nx + 50 - n) % 50
      have hm : m < 50 := Nat.mod_lt _ (by omega)
      let g1 := hset h 35 1 (nI m)
      let g2 := hset g1 35 2 (nI ((sL a).length - n))
      let g3 := hset g2 30 0 (nI ((sL a).getD (n - 1) 0))
      let g4 := hset g3 30 1 (nI ((sB a).2.1 - n))
      have o2 : ∀ r, r ∉ [35, 36] → g2 r = h r := fun r z => by simp only [g2, g1]; rw [hset_ne _ _ _ (ne_of_nm z (by decide)), hset_ne _ _ _ (ne_of_nm z (by decide))]
      have o4 : ∀ r, r ∉ [30, 35, 36] → g4 r = h r := fun r z => by simp only [g4, g3]; rw [hset_ne _ _ _ (ne_of_nm z (by decide)), hset_ne _ _ _ (ne_of_nm z (by decide)), o2 r (nm_sub (by decide) z)]
      have r36 : g2 36 = h 36 := by simp only [g2, g1]; rw [hset_ne _ _ _ (by decide), hset_ne _ _ _ (by decide)]
      have hg := getD_mem (l := sL a) (j := n - 1) (by omega)
      have okg := hv.2.2.2.1.2.2 _ hg
      have v := VS_mono (Nat.le_succ k) hv
      have hv' : VS (k + 1) (aK a n) := by
        refine ⟨v.1, v.2.1, ⟨okg, ?_, v.2.2.1.2.2⟩, ⟨?_, ?_, ?_⟩, v.2.2.2.2⟩
        · show (sB a).2.1 - n ≤ 99 * (k + 1)
          omega
        · show ((sL a).drop n).length ≤ 50
          rw [List.length_drop]; omega
        · show ((sL a).drop n).length ≤ (sB a).2.1 - n
          rw [List.length_drop]; omega
        · intro u hu
          exact v.2.2.2.1.2.2 u (List.mem_of_mem_drop (show u ∈ (sL a).drop n from hu))
      have hC' : IC (k + 1) (aK a n) g4 := by
        refine IC_up (Nat.le_succ k) hC [30, 35, 36] (fun r _ z => o4 r z) (c4 := .inr ⟨?_, ?_, ?_⟩) (c5 := .inr ⟨m, hm, ?_, ?_, fun j hj => ?_⟩)
        · simp only [g4, g3]; rw [hset_at, upd_ne _ _ (by decide), hset_at, upd_at]; rfl
        · simp only [g4]; rw [hset_at, upd_at]; rfl
        · simp only [g4, g3]; rw [hset_at, upd_ne _ _ (by decide), hset_at, upd_ne _ _ (by decide), o2 _ (by decide)]; exact hC.2.2.2.1.2.2
        · simp only [g4, g3, g2]; rw [hset_ne _ _ _ (by decide), hset_ne _ _ _ (by decide), hset_at, upd_ne _ _ (by decide)]; simp only [g1]; rw [hset_at, upd_at]
        · simp only [g4, g3, g2]; rw [hset_ne _ _ _ (by decide), hset_ne _ _ _ (by decide), hset_at, upd_at]
          show _ = nI ((sL a).drop n).length
          rw [List.length_drop]
        · have hj' : j < (sL a).length - n := by
            have : (sL (aK a n)).length = (sL a).length - n := List.length_drop
            omega
          show _ = nI (((sL a).drop n).getD j 0)
          rw [drop_get, show g4 36 = h 36 from by simp only [g4, g3]; rw [hset_ne _ _ _ (by decide), hset_ne _ _ _ (by decide), r36], ← e3 (n + j) (by omega)]
          exact congrArg (h 36) (by omega)
      have hM' : IM a (mx lC g4 h) := IM_C hM
      let hm0 := mx lC g4 h
      let q1 := hset hm0 100 16 (nI ((sL a).length - n))
      let q2 := hset q1 101 0 (nI (cM (sR a) ((sL a).getD (n - 1) 0 / 8)))
      let q3 := hset q2 101 1 (nI ((sL a).getD (n - 1) 0 % 8))
      let q4 := hset q3 101 2 (nI ((sB a).2.1 - n))
      have ml := hM'.2.2.2.2.2.1.2 (n - 1) (by omega)
      have q107 : q1 107 = hm0 107 := by simp only [q1]; rw [hset_ne _ _ _ (by decide)]
      have ei : (sL a).length - 1 - (n - 1) = (sL a).length - n := by omega
      rw [ei] at ml
      have st : ∀ (g : Hp) (i : Nat), i < 3 → g 100 16 = nI ((sL a).length - n) → K_M_back_L38 N (nI i) g = some (.inl (nI (i + 1), hset g 101 i (g 107 (3 * ((sL a).length - n) + i)))) := by
        intro g i hi eg
        unfold K_M_back_L38
        have k3 : (3 : Int32) ≤ nI i ↔ 3 ≤ i := nI_le_iff (a := 3) (by omega) (by omega)
        rw [if_neg (fun z => by have := k3.mp z; omega), eg, show (3 : Int32) = nI 3 from rfl, nI_mul, nI_add, gA_nI (by omega) (by omega), sA_nI (by omega) (by omega), nI_cl (by omega), nm_s, show (1 : Int32) = nI 1 from rfl, nI_add, nm_s]
      have s1 : K_M_back_L38 N 0 q1 = some (.inl (nI 1, q2)) := by
        have z := st q1 0 (by omega) (by simp only [q1]; rw [hset_at, upd_at])
        rw [q107, show hm0 107 (3 * ((sL a).length - n) + 0) = _ from ml.1] at z
        exact z
      have s2 : K_M_back_L38 N (nI 1) q2 = some (.inl (nI 2, q3)) := by
        have z := st q2 1 (by omega) (by simp only [q2, q1]; rw [hset_ne _ _ _ (by decide), hset_at, upd_at])
        rw [show q2 107 = hm0 107 from by simp only [q2]; rw [hset_ne _ _ _ (by decide), q107], show hm0 107 (3 * ((sL a).length - n) + 1) = _ from ml.2.1] at z
        exact z
      have s3 : K_M_back_L38 N (nI 2) q3 = some (.inl (nI 3, q4)) := by
        have z := st q3 2 (by omega) (by simp only [q3, q2, q1]; rw [hset_ne _ _ _ (by decide), hset_ne _ _ _ (by decide), hset_at, upd_at])
        rw [show q3 107 = hm0 107 from by simp only [q3, q2]; rw [hset_ne _ _ _ (by decide), hset_ne _ _ _ (by decide), q107], show hm0 107 (3 * ((sL a).length - n) + 2) = _ from ml.2.2, show (sB a).2.1 - 1 - (n - 1) = (sB a).2.1 - n by omega] at z
        exact z
      have s4 : K_M_back_L38 N (nI 3) q4 = some (.inr q4) := by
        unfold K_M_back_L38
        rw [if_pos (by decide)]
      have lp : loopN (fun z_ : Int32 × Hp => K_M_back_L38 N z_.1 z_.2) N (0, q1) = some q4 := by
        obtain ⟨M, rfl⟩ : ∃ M, N = M + 4 := ⟨N - 4, by omega⟩
        have l1 := loopN_s (body := fun z_ : Int32 × Hp => K_M_back_L38 (M + 4) z_.1 z_.2) (M + 3) (s := (0, q1)) (s' := (nI 1, q2)) s1
        have l2 := loopN_s (body := fun z_ : Int32 × Hp => K_M_back_L38 (M + 4) z_.1 z_.2) (M + 2) (s := (nI 1, q2)) (s' := (nI 2, q3)) s2
        have l3 := loopN_s (body := fun z_ : Int32 × Hp => K_M_back_L38 (M + 4) z_.1 z_.2) (M + 1) (s := (nI 2, q3)) (s' := (nI 3, q4)) s3
        have l4 := loopN_t (body := fun z_ : Int32 × Hp => K_M_back_L38 (M + 4) z_.1 z_.2) M (s := (nI 3, q4)) s4
        rw [l1, l2, l3, l4]
      have p4 : ∀ j, 3 ≤ j → q4 101 j = hm0 101 j := fun j z => by
        simp only [q4, q3, q2, q1]
        rw [hset_at, upd_ne _ _ (by omega), hset_at, upd_ne _ _ (by omega), hset_at, upd_ne _ _ (by omega), hset_ne _ _ _ (by decide)]
      have w4 : ∀ r, r ∉ [100, 101] → q4 r = hm0 r := fun r z => by
        simp only [q4, q3, q2, q1]
        rw [hset_ne _ _ _ (ne_of_nm z (by decide)), hset_ne _ _ _ (ne_of_nm z (by decide)), hset_ne _ _ _ (ne_of_nm z (by decide)), hset_ne _ _ _ (ne_of_nm z (by decide))]
      have u4 : q4 100 = q1 100 := by simp only [q4, q3, q2]; rw [hset_ne _ _ _ (by decide), hset_ne _ _ _ (by decide), hset_ne _ _ _ (by decide)]
      have v4 : ∀ f, f ≠ 16 → q4 100 f = hm0 100 f := fun f z => by rw [u4]; simp only [q1]; rw [hset_at, upd_ne _ _ z]
      have hMq : IM (aK a n) q4 := by
        refine IM_up hM' [101] [16] (fun r hr z => w4 r (fun q => ?_)) (fun f hf z => v4 f (ne_of_nm z (by decide))) (c2 := ?_) (c5 := .inr ⟨?_, ?_, ?_, ?_⟩) (c6 := .inr ⟨?_, fun j hj => ?_⟩) (c9 := .inr (mI_of ?_ (fun j hj => p4 _ (by omega)) hM'.2.2.2.2.2.2.2.2.1)) (c10 := .inr (mI_of ?_ (fun j hj => p4 _ (by omega)) hM'.2.2.2.2.2.2.2.2.2))
        · have : r ≠ 100 := ne_of_m hr (by decide)
          simp only [List.mem_cons, List.not_mem_nil, or_false] at q z
          omega
        · rw [v4 _ (by decide)]; exact hM'.2.1
        · simp only [q4, q3, q2]; rw [hset_at, upd_ne _ _ (by decide), hset_at, upd_ne _ _ (by decide), hset_at, upd_at]; rfl
        · simp only [q4, q3]; rw [hset_at, upd_ne _ _ (by decide), hset_at, upd_at]; rfl
        · simp only [q4]; rw [hset_at, upd_at]; rfl
        · rw [show (0 + 3) = 3 from rfl, p4 3 (by omega)]; exact hM'.2.2.2.2.1.2.2.2
        · rw [u4]; simp only [q1]; rw [hset_at, upd_at]
          show _ = nI ((sL a).drop n).length
          rw [List.length_drop]
        · have q : (sL (aK a n)).length = (sL a).length - n := List.length_drop
          have hj' : j < (sL a).length - n := by omega
          rw [q, w4 107 (by decide)]
          show _ = nI (cM _ (((sL a).drop n).getD j 0 / 8)) ∧ _ = nI (((sL a).drop n).getD j 0 % 8) ∧ _ = nI ((sB a).2.1 - n - 1 - j)
          rw [drop_get]
          have m := hM'.2.2.2.2.2.1.2 (n + j) (by omega)
          rw [show (sL a).length - 1 - (n + j) = (sL a).length - n - 1 - j by omega, show (sB a).2.1 - 1 - (n + j) = (sB a).2.1 - n - 1 - j by omega] at m
          exact m
        · rw [w4 _ (by decide)]
        · rw [w4 _ (by decide)]
      refine ⟨nI ((sB a).2.1 - n), g4, q4, ?_, ?_, op_CM hv' hC' (o4 _ (by decide)) (o4 _ (by decide)) hMq h4 h5⟩
      · unfold K_C_back K_Log_takeBack
        have ef : K_JMath_floorMod (nI nx - nI n) 50 = some (nI m) := by
          have : nI nx - nI n = nI (nx + 50 - n) - nI 50 := by
            rw [nI_iI nx, nI_iI n, nI_iI (nx + 50 - n), nI_iI 50, iI_sub, iI_sub]
            exact congrArg iI (by omega)
          rw [this]
          exact fm50 _ (by omega)
        have x2 : g1 35 2 = nI (sL a).length := by simp only [g1]; rw [hset_at, upd_ne _ _ (by decide)]; exact e2
        have y1 : g2 35 1 = nI m := by simp only [g2, g1]; rw [hset_at, upd_ne _ _ (by decide), hset_at, upd_at]
        have k50 : (50 : Int32) ≤ nI m ↔ 50 ≤ m := nI_le_iff (a := 50) (by omega) (by omega)
        have z3 : g3 30 1 = nI (sB a).2.1 := by simp only [g3]; rw [hset_at, upd_ne _ _ (by decide), o2 _ (by decide)]; exact hC.2.2.2.1.2.1
        have z4 : g4 30 1 = nI ((sB a).2.1 - n) := by simp only [g4]; rw [hset_at, upd_at]
        rw [oC, bd_s, if_pos cx, if_pos rfl, e2, if_pos (kl.mpr c), e1, ef, bd_s, nm_s]
        show bd2 (nm (hset g1 35 2 (g1 35 2 - nI n)) _) _ = _
        rw [x2, nI_sub c, nm_s]
        show bd2 (if g2 35 1 < 0 then _ else if (50 : Int32) ≤ g2 35 1 then _ else gA 50 (g2 36) (g2 35 1) (fun v52 => some (v52, g2))) _ = _
        rw [y1, if_neg (nI_not_neg (by omega)), if_neg (fun z => by have := k50.mp z; omega), gA_nI hm (by omega), r36, bd2_s, nm_s, mx_eq (fun r z => o2 r z)]
        have ev : h 36 m = nI ((sL a).getD (n - 1) 0) := by
          rw [← e3 (n - 1) (by omega)]
          exact congrArg (h 36) (by omega)
        rw [ev, nm_s]
        show nm (hset g3 30 1 (g3 30 1 - nI n)) _ = _
        rw [z3, nI_sub (by omega), nm_s]
        show some (g4 30 1, g4) = _
        rw [z4]
      · unfold K_M_back
        show bd (K_M_in (Int32.toInt64 (nI n)) 1 50) (fun v6 => if v6 = 0 then _ else if nI n ≤ hm0 100 16 then nm (hset hm0 100 16 (hm0 100 16 - nI n)) _ else _ : Int32 → Option (Int32 × Hp)) = _
        rw [oM, bd_s, if_pos cx, if_neg (by decide), show hm0 100 16 = _ from hM'.2.2.2.2.2.1.1, if_pos (kl.mpr c), nI_sub c, nm_s]
        show bd (loopN (fun z_ : Int32 × Hp => K_M_back_L38 N z_.1 z_.2) N (0, q1)) _ = _
        rw [lp, bd_s, gA_lit (x := 2) (i := 2) rfl (by omega) (by omega)]
        simp only [q4]; rw [hset_at, upd_at]
    · refine ⟨-1000000003, h, mx lC h h, ?_, ?_, op_no H0⟩
      · unfold K_C_back
        rw [oC, bd_s, if_pos cx, if_pos rfl, e2, if_neg (fun z => c (kl.mp z))]
      · unfold K_M_back
        rw [oM, bd_s, if_pos cx, if_neg (by decide), hM0.2.2.2.2.2.1.1, if_neg (fun z => c (kl.mp z))]
  · refine ⟨-1000000002, h, mx lC h h, ?_, ?_, op_no H0⟩
    · unfold K_C_back
      rw [oC, bd_s, if_neg cx, if_neg (by decide)]
    · unfold K_M_back
      rw [oM, bd_s, if_neg cx, if_pos rfl]
