/-! first places; mute, rules, judge -/
def fsF (P : Nat → Bool) : Nat → Nat → Nat
  | 0, i => i
  | d + 1, i => if P i = true then i else fsF P d (i + 1)
theorem fsF_sp (P : Nat → Bool) : ∀ (d i : Nat), i ≤ fsF P d i ∧ fsF P d i ≤ i + d ∧ (∀ j, i ≤ j → j < fsF P d i → P j = false) ∧ (fsF P d i < i + d → P (fsF P d i) = true)
  | 0, i => ⟨Nat.le_refl _, Nat.le_refl _, fun j h1 h2 => absurd h2 (by show ¬ j < i; omega), fun h => absurd h (by show ¬ i < i + 0; omega)⟩
  | d + 1, i => by
    show i ≤ (if P i = true then i else fsF P d (i + 1)) ∧ (if P i = true then i else fsF P d (i + 1)) ≤ i + (d + 1) ∧ (∀ j, i ≤ j → j < (if P i = true then i else fsF P d (i + 1)) → P j = false) ∧ ((if P i = true then i else fsF P d (i + 1)) < i + (d + 1) → P (if P i = true then i else fsF P d (i + 1)) = true)
    by_cases c : P i = true
    · rw [if_pos c]
      exact ⟨by omega, by omega, fun j h1 h2 => by omega, fun _ => c⟩
    · rw [if_neg c]
      obtain ⟨a1, a2, a3, a4⟩ := fsF_sp P d (i + 1)
      refine ⟨by omega, by omega, fun j h1 h2 => ?_, fun h => a4 (by omega)⟩
      by_cases e : j = i
      · rw [e]; exact Bool.eq_false_iff.mpr c
      · exact a3 j (by omega) h2
/-- the first place below e at which P holds; e where none -/
def fs (P : Nat → Bool) (e : Nat) : Nat := fsF P e 0
theorem fs_le (P : Nat → Bool) (e : Nat) : fs P e ≤ e := by have := (fsF_sp P e 0).2.1; unfold fs; omega
theorem fs_lt (P : Nat → Bool) {e j : Nat} (h : j < fs P e) : P j = false := (fsF_sp P e 0).2.2.1 j (Nat.zero_le _) h
theorem fs_at (P : Nat → Bool) {e : Nat} (h : fs P e < e) : P (fs P e) = true := (fsF_sp P e 0).2.2.2 (by unfold fs at h; omega)
theorem fs_eq (P : Nat → Bool) {e i : Nat} (h1 : i < e) (h2 : P i = true) (h3 : ∀ j, j < i → P j = false) : fs P e = i := by
  have a := fs_le P e
  rcases Nat.lt_trichotomy (fs P e) i with c | c | c
  · have := h3 _ c
    rw [fs_at P (by omega)] at this
    exact absurd this (by decide)
  · exact c
  · have := fs_lt P c
    rw [h2] at this
    exact absurd this (by decide)
theorem fs_no (P : Nat → Bool) {e : Nat} (h : ∀ j, j < e → P j = false) : fs P e = e := by
  have a := fs_le P e
  by_cases c : fs P e < e
  · have := h _ c
    rw [fs_at P c] at this
    exact absurd this (by decide)
  · omega
/-- a loop that looks for the first place -/
theorem loopN_fs {α β : Type} (body : α → Option (α ⊕ β)) (J : Nat → α → Prop) (P : Nat → Bool) (e : Nat) (T : Nat → β → Prop) (U : β → Prop)
    (hs : ∀ i s, i < e → J i s → P i = false → ∃ s', body s = some (.inl s') ∧ J (i + 1) s')
    (ht : ∀ i s, i < e → J i s → P i = true → ∃ t, body s = some (.inr t) ∧ T i t)
    (he : ∀ s, J e s → ∃ t, body s = some (.inr t) ∧ U t) {s0 : α} (h0 : J 0 s0) {N : Nat} (hN : e < N) :
    ∃ t, loopN body N s0 = some t ∧ ((fs P e < e ∧ T (fs P e) t) ∨ (fs P e = e ∧ U t)) := by
  have hle := fs_le P e
  obtain ⟨t, h1, h2⟩ := loopN_fx body J (fs P e) (fun t => (fs P e < e ∧ T (fs P e) t) ∨ (fs P e = e ∧ U t)) (fun i s hi hJ => hs i s (by omega) hJ (fs_lt P hi)) (fun s hJ => by
    by_cases c : fs P e < e
    · obtain ⟨t, h1, h2⟩ := ht _ s c hJ (fs_at P c)
      exact ⟨t, h1, .inl ⟨c, h2⟩⟩
    · have c : fs P e = e := by omega
      rw [c] at hJ
      obtain ⟨t, h1, h2⟩ := he s hJ
      exact ⟨t, h1, .inr ⟨c, h2⟩⟩) h0 (N := N) (by omega)
  exact ⟨t, h1, h2⟩
theorem out15 (x : Int32) : K_C_isOutside x 0 15 = some (if 0 ≤ x.toInt ∧ x.toInt ≤ 15 then 0 else 1) := outX (by decide) (by decide) (by decide) (by decide) (by decide) (by decide)
theorem in15 (x : Int32) : K_M_in (Int32.toInt64 x) 0 15 = some (if 0 ≤ x.toInt ∧ x.toInt ≤ 15 then 1 else 0) := inX (by decide) (by decide) (by decide) (by decide) (by decide) (by decide)
theorem out1 (x : Int32) : K_C_isOutside x 0 1 = some (if 0 ≤ x.toInt ∧ x.toInt ≤ 1 then 0 else 1) := outX (by decide) (by decide) (by decide) (by decide) (by decide) (by decide)
theorem in1 (x : Int32) : K_M_in (Int32.toInt64 x) 0 1 = some (if 0 ≤ x.toInt ∧ x.toInt ≤ 1 then 1 else 0) := inX (by decide) (by decide) (by decide) (by decide) (by decide) (by decide)
theorem out2 (x : Int32) : K_C_isOutside x 0 2 = some (if 0 ≤ x.toInt ∧ x.toInt ≤ 2 then 0 else 1) := outX (by decide) (by decide) (by decide) (by decide) (by decide) (by decide)
theorem in2 (x : Int32) : K_M_in (Int32.toInt64 x) 0 2 = some (if 0 ≤ x.toInt ∧ x.toInt ≤ 2 then 1 else 0) := inX (by decide) (by decide) (by decide) (by decide) (by decide) (by decide)
theorem out0 (x : Int32) : K_C_isOutside x 0 99 = some (if 0 ≤ x.toInt ∧ x.toInt ≤ 99 then 0 else 1) := outX (by decide) (by decide) (by decide) (by decide) (by decide) (by decide)
theorem in0 (x : Int32) : K_M_in (Int32.toInt64 x) 0 99 = some (if 0 ≤ x.toInt ∧ x.toInt ≤ 99 then 1 else 0) := inX (by decide) (by decide) (by decide) (by decide) (by decide) (by decide)
theorem out99 (x : Int32) : K_C_isOutside x 1 99 = some (if 1 ≤ x.toInt ∧ x.toInt ≤ 99 then 0 else 1) := outX (by decide) (by decide) (by decide) (by decide) (by decide) (by decide)
theorem in99 (x : Int32) : K_M_in (Int32.toInt64 x) 1 99 = some (if 1 ≤ x.toInt ∧ x.toInt ≤ 99 then 1 else 0) := inX (by decide) (by decide) (by decide) (by decide) (by decide) (by decide)
theorem j3 {j : Nat} (h : j ≤ 2) : j = 0 ∨ j = 1 ∨ j = 2 := by omega
/-- the reference's number of a moment, taken apart -/
theorem eM_q {ρ : Rv} (hW : WF ρ) {m : Nat} (hm : okM ρ m) : nI (eM ρ m) / nI (tmv ρ) = nI (8 * cM ρ (m % 384 / 8) + m % 8) ∧ eM ρ m < 3456 := by
  have hs := okS_in hW hm.2
  have e := eM_parts hW hm.1 hs
  have t := tmv_b hW
  refine ⟨?_, e.1⟩
  rw [nI_div (by omega) (by omega) (by omega)]
  exact congrArg nI (by omega)
theorem cM_lt {ρ : Rv} (hW : WF ρ) {s : Nat} (h : inR ρ s) : cM ρ s < 48 := by have := cM_b hW h; have := WH_b hW; omega
/-- what a step of the reference leaves for the next -/
theorem IM_keep {a : St} {h g : Hp} (hM : IM a h) (e : sameM h g) : IM a g ∧ RM (sR a) g ∧ g 100 12 = 0 := ⟨IM_same e hM, (IM_same e hM).1, (IM_same e hM).2.1⟩
theorem MO_mute_ok (N : Nat) (hN : 200 < N) : MO_mute N Inv := by
  intro k b0 b1 h x y c hk H
  have H0 := H
  obtain ⟨a, hv, hC, hM, h4, h5⟩ := H
  have hW := hv.1
  have ex : ∀ v : Int32, K_C_mute N x y c h = some v → K_M_mute N x y c h = some (v, h) → ∃ (r : Int32) (h2 : Hp), K_C_mute N x y c h = some r ∧ K_M_mute N x y c h = some (r, h2) ∧ Inv (k + 1) b0 b1 (mx lM h2 h) := fun v e1 e2 => ⟨v, h, e1, e2, Inv_M (sameM_rf h) H0⟩
  by_cases cx : 0 ≤ x.toInt ∧ x.toInt ≤ 15
  · by_cases cy : 0 ≤ y.toInt ∧ y.toInt ≤ 99
    · by_cases cc : 0 ≤ c.toInt ∧ c.toInt ≤ 2
      · by_cases w : rW (sR a) = 0
        · refine ex (-1000000003) ?_ ?_
          · unfold K_C_mute
            rw [out15, bd_s, if_pos cx, if_pos rfl, out0, bd_s, if_pos cy, if_pos rfl, out2, bd_s, if_pos cc, if_pos rfl, noSquaresK hW hC.2.2.1.1, bd_s, if_pos w, if_neg (by decide)]
          · unfold K_M_mute
            rw [in15, bd_s, if_pos cx, if_neg (by decide), in0, bd_s, if_pos cy, if_neg (by decide), in2, bd_s, if_pos cc, if_neg (by decide), isNoneM hW hM.1, bd_s, if_pos w, if_neg (by decide)]
        · obtain ⟨p, hp, ep⟩ := nat_of (n := 15) cx
          obtain ⟨n, hn, en⟩ := nat_of (n := 99) cy
          obtain ⟨j, hj, ej⟩ := nat_of (n := 2) cc
          have hz : okMu (sR a) (mo (sR a) (sB a), p) := ⟨mo_ok hW hv.2.2.1.1 w, (by omega : p < 16)⟩
          have hzi := muN_ok hW hz
          have hmb := okM_lt hW hz.1
          have lC : loopN (fun z_ : Int32 × Int32 => K_C_mute_L56 N y c z_.1 z_.2 h) N (nI (16 * mo (sR a) (sB a) + p), 0) = some (nI (16 * (muN (sR a) (mo (sR a) (sB a), p) n).1 + (muN (sR a) (mo (sR a) (sB a), p) n).2)) := by
            refine loopN_for _ (fun i => (nI (16 * (muN (sR a) (mo (sR a) (sB a), p) i).1 + (muN (sR a) (mo (sR a) (sB a), p) i).2), nI i)) n _ (fun i hi => ?_) ?_ (by omega)
            · show K_C_mute_L56 N y c (nI _) (nI i) h = _
              unfold K_C_mute_L56
              rw [en, if_neg (fun q => by have := (nI_le_iff (by omega) (by omega)).mp q; omega), silentK hW hC.2.2.1 (hzi i), bd_s, show (1 : Int32) = nI 1 from rfl, nI_add, nm_s]
              rfl
            · show K_C_mute_L56 N y c (nI _) (nI n) h = _
              unfold K_C_mute_L56
              rw [en, if_pos ((nI_le_iff (by omega) (by omega)).mpr (Nat.le_refl n))]
          have e12 : hset h 100 12 0 = h := hset_id hM.2.1
          have lM : ∃ t, loopN (fun z_ : Int32 × Int32 × Hp => K_M_mute_L68 N y c z_.1 z_.2.1 z_.2.2) N (nI (16 * eM (sR a) (mo (sR a) (sB a)) + p), 0, h) = some t ∧ (t.1 = nI (16 * eM (sR a) (muN (sR a) (mo (sR a) (sB a), p) n).1 + (muN (sR a) (mo (sR a) (sB a), p) n).2) ∧ sameM h t.2) := by
            refine loopN_fx _ (fun i s => s.1 = nI (16 * eM (sR a) (muN (sR a) (mo (sR a) (sB a), p) i).1 + (muN (sR a) (mo (sR a) (sB a), p) i).2) ∧ s.2.1 = nI i ∧ sameM h s.2.2) n _ (fun i s hi hJ => ?_) (fun s hJ => ?_) ⟨rfl, rfl, sameM_rf h⟩ (by omega)
            · obtain ⟨x1, x2, g⟩ := s
              obtain ⟨e1, e2, e3⟩ := hJ
              have e1 : x1 = _ := e1
              have e2 : x2 = nI i := e2
              have e3 : sameM h g := e3
              obtain ⟨q1, q2, q3⟩ := IM_keep hM e3
              obtain ⟨h1, z1, z2, z3⟩ := muteM hW N hN q2 q3 (hzi i)
              refine ⟨(_, nI (i + 1), h1), ?_, rfl, rfl, sameM_tr e3 z2⟩
              show K_M_mute_L68 N y c x1 x2 g = _
              unfold K_M_mute_L68
              rw [e1, e2, en, if_neg (fun q => by have := (nI_le_iff (by omega) (by omega)).mp q; omega), z1, bd2_s, show (1 : Int32) = nI 1 from rfl, nI_add, nm_s]
              rfl
            · obtain ⟨x1, x2, g⟩ := s
              obtain ⟨e1, e2, e3⟩ := hJ
              have e2 : x2 = nI n := e2
              refine ⟨(x1, g), ?_, e1, e3⟩
              show K_M_mute_L68 N y c x1 x2 g = _
              unfold K_M_mute_L68
              rw [e2, en, if_pos ((nI_le_iff (by omega) (by omega)).mpr (Nat.le_refl n))]
          obtain ⟨⟨t1, h2⟩, l1, l2, l3⟩ := lM
          have l2 : t1 = _ := l2
          have l3 : sameM h h2 := l3
          have hz2 := hzi n
          obtain ⟨q1, q2, q3⟩ := IM_keep hM l3
          generalize muN (sR a) (mo (sR a) (sB a), p) n = zz at lC l2 hz2
          obtain ⟨m, p2⟩ := zz
          have hm : okM (sR a) m := hz2.1
          have hp2 : p2 < 16 := hz2.2
          have lC : loopN (fun z_ : Int32 × Int32 => K_C_mute_L56 N y c z_.1 z_.2 h) N (nI (16 * mo (sR a) (sB a) + p), 0) = some (nI (16 * m + p2)) := lC
          have l2 : t1 = nI (16 * eM (sR a) m + p2) := l2
          have hml := okM_lt hW hm
          obtain ⟨d1, d2⟩ := eM_q hW hm
          have hs := okS_in hW hm.2
          have hcl := cM_lt hW hs
          have tb := tmv_b hW
          have kC : K_C_mute N x y c h = (if c = 0 then some (nI (10 * (m % 384 / 8 % 8) + m % 384 / 8 / 8)) else if c = 1 then some (nI (m % 8)) else some (nI p2)) := by
            unfold K_C_mute
            rw [out15, bd_s, if_pos cx, if_pos rfl, out0, bd_s, if_pos cy, if_pos rfl, out2, bd_s, if_pos cc, if_pos rfl, noSquaresK hW hC.2.2.1.1, bd_s, if_neg w, if_pos rfl, momentK (by omega) hv hC, bd_s, ep, show (16 : Int32) = nI 16 from rfl, nI_mul, nI_add, nm_s, Nat.mul_comm, lC, bd_s, nI_div (by omega) (by omega) (by omega), nI_rem (by omega) (by omega) (by omega), show (16 * m + p2) / 16 = m by omega, show (16 * m + p2) % 16 = p2 by omega, squareOfK (by omega), bd_s, placeK (by omega), bd_s, headM (by omega), bd_s]
          have kM : K_M_mute N x y c h = (if c = 0 then some (nI (10 * (m % 384 / 8 % 8) + m % 384 / 8 / 8), h2) else if c = 1 then some (nI (m % 8), h2) else some (nI p2, h2)) := by
            unfold K_M_mute
            rw [in15, bd_s, if_pos cx, if_neg (by decide), in0, bd_s, if_pos cy, if_neg (by decide), in2, bd_s, if_pos cc, if_neg (by decide), isNoneM hW hM.1, bd_s, if_neg w, if_pos rfl, nm_s, e12, stateNowM (by omega) hv hM w, bd_s, ep, show (16 : Int32) = nI 16 from rfl, nI_mul, nI_add, nm_s, l1, bd_s]
            show bd (K_M_times h2) (fun v94 => dz v94 <| nm (((t1 / nI 16) / v94)) <| fun v98 => if c = 0 then (bd (K_M_pair (v98 / 8) h2) <| fun v110 => some (v110, h2)) else ( if c = 1 then ( some ((rm32 v98 8), h2)) else ( some ((rm32 t1 (nI 16)), h2)))) = _
            rw [timesM hW q2, bd_s, dz_nI (by omega) (by omega), l2, nI_div (by omega) (by omega) (by omega), nI_rem (by omega) (by omega) (by omega), show (16 * eM (sR a) m + p2) / 16 = eM (sR a) m by omega, show (16 * eM (sR a) m + p2) % 16 = p2 by omega, d1, nm_s, show (8 : Int32) = nI 8 from rfl, nI_div (by omega) (by omega) (by omega), nI_rem (by omega) (by omega) (by omega), show (8 * cM (sR a) (m % 384 / 8) + m % 8) / 8 = cM (sR a) (m % 384 / 8) by omega, show (8 * cM (sR a) (m % 384 / 8) + m % 8) % 8 = m % 8 by omega, pairM hW q2 ⟨fun z => absurd z w, fun _ => hs⟩, bd_s]
          rw [kC, kM]
          have fin : ∀ v : Int32, Inv (k + 1) b0 b1 (mx lM h2 h) := fun _ => Inv_M l3 H0
          by_cases c0 : c = 0
          · rw [if_pos c0, if_pos c0]
            exact ⟨_, h2, rfl, rfl, fin 0⟩
          · rw [if_neg c0, if_neg c0]
            by_cases c1 : c = 1
            · rw [if_pos c1, if_pos c1]
              exact ⟨_, h2, rfl, rfl, fin 0⟩
            · rw [if_neg c1, if_neg c1]
              exact ⟨_, h2, rfl, rfl, fin 0⟩
      · refine ex (-1000000002) ?_ ?_
        · unfold K_C_mute
          rw [out15, bd_s, if_pos cx, if_pos rfl, out0, bd_s, if_pos cy, if_pos rfl, out2, bd_s, if_neg cc, if_neg (by decide)]
        · unfold K_M_mute
          rw [in15, bd_s, if_pos cx, if_neg (by decide), in0, bd_s, if_pos cy, if_neg (by decide), in2, bd_s, if_neg cc, if_pos rfl]
    · refine ex (-1000000002) ?_ ?_
      · unfold K_C_mute
        rw [out15, bd_s, if_pos cx, if_pos rfl, out0, bd_s, if_neg cy, if_neg (by decide)]
      · unfold K_M_mute
        rw [in15, bd_s, if_pos cx, if_neg (by decide), in0, bd_s, if_neg cy, if_pos rfl]
  · refine ex (-1000000002) ?_ ?_
    · unfold K_C_mute
      rw [out15, bd_s, if_neg cx, if_neg (by decide)]
    · unfold K_M_mute
      rw [in15, bd_s, if_neg cx, if_pos rfl]
