/-! drift -/
def nxS (s : Nat) : Nat := (s * 1103515245 + 12345) % 2147483648
theorem sdX {s : Nat} (h : s < 2147483648) : ((Int32.toInt64 (nI s)) * 1103515245 + 12345 : Int64).toInt = ((s * 1103515245 + 12345 : Nat) : Int) := by
  have e : Int32.toInt64 (nI s) = iL (s : Int) := by rw [nI_iI, toI64 (by omega) (by omega)]
  rw [e, show (1103515245 : Int64) = iL 1103515245 from by decide, show (12345 : Int64) = iL 12345 from by decide]
  show (Int64.ofInt _ * Int64.ofInt _ + Int64.ofInt _ : Int64).toInt = _
  rw [← Int64.ofInt_mul, ← Int64.ofInt_add, iL_toInt (by omega) (by omega)]
  omega
theorem sdC {s : Nat} (h : s < 2147483648) : Int64.toInt32 ((((Int32.toInt64 (nI s)) * 1103515245) + 12345) &&& 2147483647) = nI (nxS s) := by
  have l : nxS s < 2147483648 := Nat.mod_lt _ (by omega)
  have e := Jvm.Kit.i64_mask ((Int32.toInt64 (nI s)) * 1103515245 + 12345) 2147483647 (k := 31) (by omega) (by decide)
  rw [sdX h] at e
  have e2 : (((s * 1103515245 + 12345 : Nat) : Int)) % 2 ^ 31 = (nxS s : Int) := by unfold nxS; omega
  rw [e2] at e
  apply Int32.toInt_inj.mp
  rw [Jvm.Kit.i32_of_i64 (by rw [e]; omega) (by rw [e]; omega), e, nI_iI, iI_toInt (by omega) (by omega)]
theorem sdM {s : Nat} (h : s < 2147483648) : Int64.toInt32 (rm64 (((Int32.toInt64 (nI s)) * 1103515245) + 12345) 2147483648) = nI (nxS s) := by
  have l : nxS s < 2147483648 := Nat.mod_lt _ (by omega)
  have e := Jvm.Kit.i64_rem_nonneg (x := (Int32.toInt64 (nI s)) * 1103515245 + 12345) (y := 2147483648) (by rw [sdX h]; omega)
  rw [sdX h, show (2147483648 : Int64).toInt = 2147483648 from by decide] at e
  have e2 : (((s * 1103515245 + 12345 : Nat) : Int)) % 2147483648 = (nxS s : Int) := by unfold nxS; omega
  rw [e2] at e
  apply Int32.toInt_inj.mp
  rw [Jvm.Kit.i32_of_i64 (by rw [e]; omega) (by rw [e]; omega), e, nI_iI, iI_toInt (by omega) (by omega)]
def aS (a : St) (j : Nat) : St := aB a ((sB a).1, (sB a).2.1, j)
theorem VS_seed {k : Nat} {a : St} (v : VS k a) {j : Nat} (h : j < 2147483648) : VS k (aS a j) := ⟨v.1, v.2.1, ⟨v.2.2.1.1, v.2.2.1.2.1, h⟩, v.2.2.2⟩
theorem IC_seed {k : Nat} {a : St} {h : Hp} (hC : IC k a h) (j : Nat) : IC k (aS a j) (hset h 30 2 (nI j)) := by
  refine IC_up (Nat.le_refl k) hC [30] (fun r _ z => hset_ne _ _ _ (ne_of_nm z (by decide))) (c4 := .inr ⟨?_, ?_, ?_⟩)
  · rw [hset_at, upd_ne _ _ (by decide)]; exact hC.2.2.2.1.1
  · rw [hset_at, upd_ne _ _ (by decide)]; exact hC.2.2.2.1.2.1
  · rw [hset_at, upd_at]; rfl
theorem IM_seed {a : St} {h : Hp} (hM : IM a h) (j : Nat) : IM (aS a j) (hset h 101 3 (nI j)) := by
  refine IM_up hM [101] [] (fun r _ z => hset_ne _ _ _ (ne_of_nm z (by decide))) (fun f hf z => ?_) (c2 := ?_) (c5 := .inr ⟨?_, ?_, ?_, ?_⟩) (c9 := .inr (mI_of ?_ (fun j hj => ?_) hM.2.2.2.2.2.2.2.2.1)) (c10 := .inr (mI_of ?_ (fun j hj => ?_) hM.2.2.2.2.2.2.2.2.2))
  · rw [hset_ne _ _ _ (by decide)]
  · rw [hset_ne _ _ _ (by decide)]; exact hM.2.1
  · rw [hset_at, upd_ne _ _ (by decide)]; exact hM.2.2.2.2.1.1
  · rw [hset_at, upd_ne _ _ (by decide)]; exact hM.2.2.2.2.1.2.1
  · rw [hset_at, upd_ne _ _ (by decide)]; exact hM.2.2.2.2.1.2.2.1
  · rw [hset_at, upd_at]; rfl
  · rw [hset_ne _ _ _ (by decide)]
  · rw [hset_at, upd_ne _ _ (by omega)]
  · rw [hset_ne _ _ _ (by decide)]
  · rw [hset_at, upd_ne _ _ (by omega)]
theorem drawC {h : Hp} {s : Nat} (e : h 30 2 = nI s) (hs : s < 2147483648) : K_Boat_draw 16 h = some (nI (nxS s / 65536 % 16), hset h 30 2 (nI (nxS s))) := by
  have l : nxS s < 2147483648 := Nat.mod_lt _ (by omega)
  unfold K_Boat_draw
  rw [e, sdC hs, nm_s, if_neg (by decide), show (16 : Int32) = nI 16 from rfl, dz_nI (by omega) (by omega), hset_at, upd_at, show (65536 : Int32) = nI 65536 from rfl, nI_div (by omega) (by omega) (by omega), nI_rem (by omega) (by omega) (by omega)]
theorem drawM {h : Hp} {s : Nat} (e : h 101 3 = nI s) (hs : s < 2147483648) : K_M_draw 16 h = some (nI (nxS s / 65536 % 16), hset h 101 3 (nI (nxS s))) := by
  have l : nxS s < 2147483648 := Nat.mod_lt _ (by omega)
  unfold K_M_draw
  rw [show (3 : Int32) = nI 3 from rfl, gA_nI (by omega) (by omega), e, sdM hs, sA_nI (by omega) (by omega), nI_cl (by omega), nm_s, gA_nI (by omega) (by omega), show (16 : Int32) = nI 16 from rfl, dz_nI (by omega) (by omega), hset_at, upd_at, show (65536 : Int32) = nI 65536 from rfl, nI_div (by omega) (by omega) (by omega), nI_rem (by omega) (by omega) (by omega)]
def aPS (a : St) (s p : Nat) : St := aP (aS a s) p
theorem aPS_R (a : St) (s p : Nat) : sR (aPS a s p) = sR a := rfl
theorem aPS_I (a : St) (s p : Nat) : sI0 (aPS a s p) = sI0 a ∧ sI1 (aPS a s p) = sI1 a := ⟨rfl, rfl⟩
theorem aPS_c (a : St) (s p : Nat) : (sB (aPS a s p)).2.1 = (sB a).2.1 + 1 := rfl
theorem aPS_VS {k : Nat} {a : St} (v : VS k a) (n : (sB a).2.1 + 1 ≤ 99 * k) (w : rW (sR a) ≠ 0) {s : Nat} (hs : s < 2147483648) (p : Nat) : VS k (aPS a s p) := VS_aP (VS_seed v hs) (Nat.le_refl _) n w _
theorem aPS_C {k : Nat} {a : St} {h : Hp} (hk : k ≤ 64) (v : VS k a) (hC : IC k a h) {s p : Nat} (hs : s < 2147483648) (hp : p < 16) (e : K_Boat_draw 16 h = some (nI p, hset h 30 2 (nI s))) : ∃ h1, bd2 (K_Boat_draw 16 h) (fun v37 h37 => nm (mx [30] h37 h) (fun h37m => K_C_paddle v37 h37m)) = some h1 ∧ IC k (aPS a s p) h1 ∧ ∀ r, r ∉ [30, 35, 36] → h1 r = h r := by
  obtain ⟨h1, z1, z2, z3⟩ := paddleC hk (VS_seed v hs) (IC_seed hC s) hp
  refine ⟨h1, ?_, z2, fun r z => ?_⟩
  · rw [e, bd2_s, nm_s, mx_eq (fun r z => hset_ne _ _ _ (ne_of_nm z (by decide))), z1]
  · rw [z3 r z, hset_ne _ _ _ (ne_of_nm z (by decide))]
theorem aPS_M {k : Nat} {a : St} {h : Hp} (N : Nat) (hN : 200 < N) (hk : k ≤ 64) (v : VS k a) (hM : IM a h) (w : rW (sR a) ≠ 0) {s p : Nat} (hs : s < 2147483648) (hp : p < 16) (e : K_M_draw 16 h = some (nI p, hset h 101 3 (nI s))) : ∃ h1, bd2 (K_M_draw 16 h) (fun v35 h35 => K_M_go N (v35 / 4) (rm32 v35 4) h35) = some h1 ∧ IM (aPS a s p) h1 := by
  obtain ⟨h2, z1, z2⟩ := goM N hN hk (VS_seed v hs) (IM_seed hM s) w hp
  refine ⟨h2, ?_, z2⟩
  rw [e, bd2_s, show (4 : Int32) = nI 4 from rfl, nI_div (by omega) (by omega) (by omega), nI_rem (by omega) (by omega) (by omega), z1]
/-- one stroke by lot -/
def dS (a : St) : St := aPS a (nxS (sB a).2.2) (nxS (sB a).2.2 / 65536 % 16)
theorem nxS_lt (s : Nat) : nxS s < 2147483648 := Nat.mod_lt _ (by omega)
theorem dS_R (a : St) : sR (dS a) = sR a := by unfold dS; rw [aPS_R]
theorem dS_I (a : St) : sI0 (dS a) = sI0 a ∧ sI1 (dS a) = sI1 a := by unfold dS; exact aPS_I a _ _
theorem dS_c (a : St) : (sB (dS a)).2.1 = (sB a).2.1 + 1 := by unfold dS; rw [aPS_c]
theorem dS_VS {k : Nat} {a : St} (v : VS k a) (n : (sB a).2.1 + 1 ≤ 99 * k) (w : rW (sR a) ≠ 0) : VS k (dS a) := by unfold dS; exact aPS_VS v n w (nxS_lt _) _
theorem dS_C {k : Nat} {a : St} {h : Hp} (hk : k ≤ 64) (v : VS k a) (hC : IC k a h) : ∃ h1, bd2 (K_Boat_draw 16 h) (fun v37 h37 => nm (mx [30] h37 h) (fun h37m => K_C_paddle v37 h37m)) = some h1 ∧ IC k (dS a) h1 ∧ ∀ r, r ∉ [30, 35, 36] → h1 r = h r := by
  unfold dS
  exact aPS_C hk v hC (nxS_lt _) (Nat.mod_lt _ (by omega)) (drawC hC.2.2.2.1.2.2 v.2.2.1.2.2)
theorem dS_M {k : Nat} {a : St} {h : Hp} (N : Nat) (hN : 200 < N) (hk : k ≤ 64) (v : VS k a) (hM : IM a h) (w : rW (sR a) ≠ 0) : ∃ h1, bd2 (K_M_draw 16 h) (fun v35 h35 => K_M_go N (v35 / 4) (rm32 v35 4) h35) = some h1 ∧ IM (dS a) h1 := by
  unfold dS
  exact aPS_M N hN hk v hM w (nxS_lt _) (Nat.mod_lt _ (by omega)) (drawM (show h 101 3 = _ from hM.2.2.2.2.1.2.2.2) v.2.2.1.2.2)
/-- after i strokes by lot -/
def dr (a : St) : Nat → St
  | 0 => a
  | i + 1 => dS (dr a i)
theorem dr_s (a : St) (i : Nat) : dr a (i + 1) = dS (dr a i) := rfl
theorem dr_R (a : St) (i : Nat) : sR (dr a i) = sR a := by
  induction i with
  | zero => rfl
  | succ i ih => rw [dr_s, dS_R, ih]
theorem dr_I (a : St) (i : Nat) : sI0 (dr a i) = sI0 a ∧ sI1 (dr a i) = sI1 a := by
  induction i with
  | zero => exact ⟨rfl, rfl⟩
  | succ i ih => rw [dr_s, (dS_I _).1, (dS_I _).2]; exact ih
theorem dr_c (a : St) (i : Nat) : (sB (dr a i)).2.1 = (sB a).2.1 + i := by
  induction i with
  | zero => rfl
  | succ i ih => rw [dr_s, dS_c, ih]; omega
theorem MO_drift_ok (N : Nat) (hN : 200 < N) : MO_drift N Inv := by
  intro k b0 b1 h x hk H
  have H0 := H
  obtain ⟨a, hv, hC, hM, h4, h5⟩ := H
  have hW := hv.1
  have hM0 := IM_C (h1 := h) hM
  have oC : K_C_isOutside x 1 99 = some (if 1 ≤ x.toInt ∧ x.toInt ≤ 99 then 0 else 1) := outX (by decide) (by decide) (by decide) (by decide) (by decide) (by decide)
  have oM : K_M_in (Int32.toInt64 x) 1 99 = some (if 1 ≤ x.toInt ∧ x.toInt ≤ 99 then 1 else 0) := inX (by decide) (by decide) (by decide) (by decide) (by decide) (by decide)
  by_cases cx : 1 ≤ x.toInt ∧ x.toInt ≤ 99
  · by_cases w : rW (sR a) = 0
    · refine ⟨-1000000003, h, mx lC h h, ?_, ?_, op_no H0⟩
      · unfold K_C_drift
        rw [oC, noSquaresK hW hC.2.2.1.1, bd_s, bd_s, if_pos cx, if_pos rfl, if_pos w, if_neg (by decide)]
      · unfold K_M_drift
        rw [oM, isNoneM hW hM0.1, bd_s, bd_s, if_pos cx, if_neg (by decide), if_pos w, if_neg (by decide)]
    · obtain ⟨n, hn, en⟩ := nat_of (x := x) (n := 99) ⟨by omega, cx.2⟩
      have cn := hv.2.2.1.2.1
      have hv0 := VS_mono (Nat.le_succ k) hv
      have hvi : ∀ i, i ≤ 99 → VS (k + 1) (dr a i) := by
        intro i
        induction i with
        | zero => intro _; exact hv0
        | succ i ih =>
          intro hi
          have v := ih (by omega)
          have c := dr_c a i
          rw [dr_s]
          exact dS_VS v (by omega) (by rw [dr_R]; exact w)
      have lC : ∃ t, loopN (fun z_ : Int32 × Hp => K_C_drift_L25 N x z_.1 z_.2) N (0, h) = some t ∧ (IC (k + 1) (dr a n) t ∧ ∀ r, r ∉ [30, 35, 36] → t r = h r) := by
        refine loopN_fx _ (fun i z => z.1 = nI i ∧ IC (k + 1) (dr a i) z.2 ∧ ∀ r, r ∉ [30, 35, 36] → z.2 r = h r) n _ (fun i s hi hJ => ?_) (fun s hJ => ?_) ⟨rfl, (show IC (k + 1) (dr a 0) h from IC_same (Nat.le_succ k) (fun _ _ => rfl) hC), fun _ _ => rfl⟩ (by omega)
        · obtain ⟨x2, g⟩ := s
          obtain ⟨e1, i1, o1⟩ := hJ
          have e1 : x2 = nI i := e1
          have i1 : IC (k + 1) (dr a i) g := i1
          have o1 : ∀ r, r ∉ [30, 35, 36] → g r = h r := o1
          have v := hvi i (by omega)
          have k1 : nI n ≤ nI i ↔ n ≤ i := nI_le_iff (by omega) (by omega)
          obtain ⟨h1, z1, z2, z3⟩ := dS_C (by omega) v i1
          obtain ⟨v1, w1, z4, z5⟩ := bd2_some z1
          rw [nm_s] at z5
          refine ⟨(nI (i + 1), h1), ?_, rfl, by rw [dr_s]; exact z2, fun r z => (z3 r z).trans (o1 r z)⟩
          show K_C_drift_L25 N x x2 g = _
          unfold K_C_drift_L25
          rw [e1, en, if_neg (fun z => by have := k1.mp z; omega), z4, bd2_s, nm_s, z5, bd_s, show (1 : Int32) = nI 1 from rfl, nI_add, nm_s]
        · obtain ⟨x2, g⟩ := s
          obtain ⟨e1, i1, o1⟩ := hJ
          have e1 : x2 = nI n := e1
          refine ⟨g, ?_, i1, o1⟩
          show K_C_drift_L25 N x x2 g = _
          unfold K_C_drift_L25
          rw [e1, en, if_pos ((nI_le_iff (by omega) (by omega)).mpr (Nat.le_refl n))]
      obtain ⟨h1, l1, c1, o1⟩ := lC
      have lM : ∃ t, loopN (fun z_ : Int32 × Hp => K_M_drift_L27 N x z_.1 z_.2) N (0, mx lC h1 h) = some t ∧ IM (dr a n) t := by
        refine loopN_fx _ (fun i z => z.1 = nI i ∧ IM (dr a i) z.2) n _ (fun i s hi hJ => ?_) (fun s hJ => ?_) ⟨rfl, (show IM (dr a 0) (mx lC h1 h) from IM_C hM)⟩ (by omega)
        · obtain ⟨x2, g⟩ := s
          obtain ⟨e1, i1⟩ := hJ
          have e1 : x2 = nI i := e1
          have i1 : IM (dr a i) g := i1
          have v := hvi i (by omega)
          have k1 : nI n ≤ nI i ↔ n ≤ i := nI_le_iff (by omega) (by omega)
          obtain ⟨h2, z1, z2⟩ := dS_M N hN (by omega) v i1 (by rw [dr_R]; exact w)
          obtain ⟨v1, w1, z4, z5⟩ := bd2_some z1
          refine ⟨(nI (i + 1), h2), ?_, rfl, by rw [dr_s]; exact z2⟩
          show K_M_drift_L27 N x x2 g = _
          unfold K_M_drift_L27
          rw [e1, en, if_neg (fun z => by have := k1.mp z; omega), z4, bd2_s, z5, bd_s, show (1 : Int32) = nI 1 from rfl, nI_add, nm_s]
        · obtain ⟨x2, g⟩ := s
          obtain ⟨e1, i1⟩ := hJ
          have e1 : x2 = nI n := e1
          refine ⟨g, ?_, i1⟩
          show K_M_drift_L27 N x x2 g = _
          unfold K_M_drift_L27
          rw [e1, en, if_pos ((nI_le_iff (by omega) (by omega)).mpr (Nat.le_refl n))]
      obtain ⟨h2, l2, c2⟩ := lM
      have v := hvi n hn
      refine ⟨pl (sB (dr a n)).1, h1, h2, ?_, ?_, op_CM v c1 (o1 _ (by decide)) (o1 _ (by decide)) c2 (by rw [(dr_I a n).1]; exact h4) (by rw [(dr_I a n).2]; exact h5)⟩
      · unfold K_C_drift
        rw [oC, noSquaresK hW hC.2.2.1.1, bd_s, bd_s, if_pos cx, if_pos rfl, if_neg w, if_pos rfl, l1, bd_s, placeNowK v c1, bd_s]
      · unfold K_M_drift
        rw [oM, isNoneM hW (IM_C hM).1, bd_s, bd_s, if_pos cx, if_neg (by decide), if_neg w, if_pos rfl, l2, bd_s, gA_lit (x := 0) (i := 0) rfl (by omega) (by omega), placeNowM v c2, bd_s]
  · refine ⟨-1000000002, h, mx lC h h, ?_, ?_, op_no H0⟩
    · unfold K_C_drift
      rw [oC, bd_s, if_neg cx, if_neg (by decide)]
    · unfold K_M_drift
      rw [oM, bd_s, if_neg cx, if_pos rfl]
